/** The edges of the Terms STEPS (what they reckon) and IT GOES ON. */
public final class GoesOnEdgesTest {
    private static final int MAX = Integer.MAX_VALUE;
    private static final int MIN = Integer.MIN_VALUE;

    /** 2 * a STEPS. */
    private static final String LOOP = "0:a=a-1;I(a)0;";

    public static void main(String[] args) {
        Checks.runAll(GoesOnEdgesTest.class);
    }

    private static int endOf(String text, int argument) {
        Weave x = Checks.with(text);
        x.start(0, 0, argument);
        Checks.due(text + " has ended", x.workflow(0, 0), 4);
        return x.workflow(0, 1);
    }

    // ---- STEPS ----

    /** STEPS: "ints": + - * wrap around. */
    private static void stepsIntsWrapAround() {
        int[] numbers = {MIN, MIN + 1, -65536, -2, -1, 0, 1, 2, 46341, 65536, MAX - 1, MAX};
        for (int one : numbers) {
            Checks.due(one + "+1", endOf("b=a+1;E(b);", one), one + 1);
            Checks.due("-1+" + one, endOf("b=-1+a;E(b);", one), one - 1);
            Checks.due(one + "-1", endOf("b=a-1;E(b);", one), one - 1);
            Checks.due("0-" + one, endOf("b=0-a;E(b);", one), -one);
            Checks.due(one + "--1", endOf("b=a--1;E(b);", one), one + 1);
            Checks.due(one + " * itself", endOf("b=a*a;E(b);", one), one * one);
            Checks.due(one + "*-1", endOf("b=a*-1;E(b);", one), -one);
            Checks.due(one + "*99999", endOf("b=a*99999;E(b);", one), one * 99999);
            Checks.due(one + " + itself", endOf("a=a+a;E(a);", one), one + one);
        }
    }

    /** STEPS: "< and = : 1 or 0". */
    private static void stepsLessAndSame() {
        int[] numbers = {MIN, -1, 0, 1, 2, 3, MAX};
        for (int one : numbers) {
            Checks.due(one + "<2", endOf("b=a<2;E(b);", one), one < 2 ? 1 : 0);
            Checks.due("2<" + one, endOf("b=2<a;E(b);", one), 2 < one ? 1 : 0);
            Checks.due(one + "<itself", endOf("b=a<a;E(b);", one), 0);
            Checks.due(one + "=2", endOf("b=a=2;E(b);", one), one == 2 ? 1 : 0);
            Checks.due(one + "=itself", endOf("b=a=a;E(b);", one), 1);
        }
    }

    /** A VALUE of five digits, with and without -. */
    private static void stepsValues() {
        Checks.due("99999", endOf("E(99999);", 0), 99999);
        Checks.due("-99999", endOf("E(-99999);", 0), -99999);
        Checks.due("00007", endOf("E(00007);", 0), 7);
        Checks.due("-0", endOf("E(-0);", 5), 0);
        Checks.due("12345-12345", endOf("b=12345--12345;E(b);", 0), 24690);
    }

    /** I: "goes there if X is not 0". */
    private static void stepsIGoesIfNot0() {
        for (int x : new int[] {MIN, -2, -1, 0, 1, 2, MAX}) {
            Checks.due("I(" + x + ")", endOf("I(a)1;E(5);1:E(6);", x), x == 0 ? 5 : 6);
            Checks.due("I(" + x + ") back", endOf("G2;1:E(6);2:I(a)1;E(5);", x), x == 0 ? 5 : 6);
        }
        Checks.due("I to itself", endOf("3:I(a)3;E(5);", 0), 5);
        Checks.due("I to itself, 201 times", endOf("3:I(a)3;E(5);", 1), -1);
    }

    /** E: "it ends with X; behind the last STEP it ends with 0", with EVENT 10. */
    private static void goesOnEnds() {
        for (int x : new int[] {MIN, -1, 0, 1, MAX}) {
            Weave y = Checks.with("E(a);E(7);");
            y.start(0, 0, x);
            Checks.due("E(" + x + ")", Checks.history(y, 0), "0(0," + x + ")@0 10(" + x + ",0)");
        }
        Weave y = Checks.with("a=5;");
        y.start(0, 0, 3);
        Checks.due("behind the last STEP", Checks.history(y, 0), "0(0,3)@0 10(0,0)");
        y = Checks.with("G1;E(4);1:I(0)1;");
        y.start(0, 0, 3);
        Checks.due("behind an I", Checks.history(y, 0), "0(0,3)@0 10(0,0)");
    }

    // ---- The 201st STEP ----

    /** IT GOES ON: "the 201st STEP since it began ... is OVER instead": E as the 199th to 202nd, and the end. */
    private static void goesOn200StepsSinceItBegan() {
        Checks.due("E as the 199th", endOf(LOOP + "E(7);", 99), 7);
        Checks.due("E as the 200th", endOf("b=1;" + LOOP + "E(7);", 99), 7);
        Checks.due("E as the 201st", endOf(LOOP + "E(7);", 100), -1);
        Checks.due("E as the 202nd", endOf("b=1;" + LOOP + "E(7);", 100), -1);
        Checks.due("the end behind 199", endOf("b=1;" + LOOP, 99), 0);
        Checks.due("the end behind 200", endOf(LOOP, 100), 0);
        Checks.due("the end behind 201", endOf("b=1;" + LOOP, 100), -1);
        Weave x = Checks.with("0:a=a+1;b=b+1;c=c+1;G0;");
        x.start(0, 0, 0);
        Checks.due("its history", Checks.history(x, 0), "0(0,0)@0 12(-1,0)");
        Checks.due("a, b and c", x.query(0, 0) * 10000 + x.query(0, 1) * 100 + x.query(0, 2), 505050);
        x = Checks.with("0:a=a+1;b=b+1;G0;");
        x.start(0, 0, 0);
        Checks.due("a and b behind 200", x.query(0, 0) * 100 + x.query(0, 1), 6767);
        x = Checks.with("0:a=a+1;G0;");
        x.start(0, 0, MAX);
        Checks.due("200 STEPS", x.query(0, 0), MIN + 99);
    }

    /** Whatever it is, a STEP that does not wait is one: E is the 200th, or the 201st, with it. */
    private static void dueOneStep(String step) {
        Checks.due("E as the 200th behind " + step, endOf(step + LOOP + "E(7);", 99), 7);
        Checks.due("E as the 201st behind " + step, endOf(step + LOOP + "d=1;E(7);", 99), -1);
        Checks.due("the end behind 200 with " + step, endOf(step + LOOP + "d=1;", 99), 0);
    }

    /** IT GOES ON: each kind of STEP that needs not wait is counted; an S or J for none such, too. */
    private static void goesOnEachStepCounts() {
        String[] steps = {"b=1;", "b=a*a;", "b=a<1;", "I(0)0;", "I(1)9;9:", "G9;9:", "S(-1,1);", "S(0,1);", "S(-2,1);",
            "b=J(0);", "b=J(-1);", "b=C1(0);"};
        for (String step : steps) {
            if (step.endsWith(":")) {
                String jump = step.substring(0, step.length() - 2);
                Checks.due("E as the 200th behind " + jump, endOf(jump + "9:a=a;0:a=a-1;I(a)0;c=1;E(7);", 98), 7);
                Checks.due("E as the 201st behind " + jump, endOf(jump + "9:a=a;0:a=a-1;I(a)0;c=1;c=1;E(7);", 98), -1);
            } else {
                dueOneStep(step);
            }
        }
        Weave x = Checks.with("b=C1(0);S(b,2);c=5;" + LOOP + "E(7);");
        x.start(0, 0, 98);
        Checks.due("S to a child: E as the 200th", x.workflow(0, 1), 7);
        Checks.tell(x, 0, "b=C1(0);S(b,2);c=5;" + LOOP + "d=1;E(7);");
        x.start(4, 0, 98);
        Checks.due("E as the 201st", x.workflow(4, 1), -1);
    }

    /** A workflow that waits in a STEP, goes on, and then has 2 * a STEPS and so many more ahead of E. */
    private static int endBehind(String wait, int argument, int more) {
        Weave x = Checks.with("c=C1(0);" + wait + LOOP + "d=1;".repeat(more) + "E(7);");
        Checks.tell(x, 1, "b=A1(0);E(3);");
        x.start(0, 0, argument);
        Checks.due("it waits", x.workflow(0, 0) < 4, true);
        x.tick(1);
        x.signal(1, 0, 5);
        x.finish(x.poll(0), 5);
        x.finish(x.poll(1), 5);
        x.tick(1);
        Checks.due("it has ended", x.workflow(0, 0), 4);
        return x.workflow(0, 1);
    }

    /** IT GOES ON: "or last waited (that in which it waited isn't counted": A, T, W and J that waited. */
    private static void goesOn200StepsSinceItWaited() {
        for (String wait : new String[] {"b=A0(0);", "T(1);", "b=W;", "b=J(c);"}) {
            Checks.due("E as the 199th behind " + wait, endBehind(wait, 99, 0), 7);
            Checks.due("E as the 200th behind " + wait, endBehind(wait, 99, 1), 7);
            Checks.due("E as the 201st behind " + wait, endBehind(wait, 99, 2), -1);
        }
    }

    /** IT GOES ON: the STEPS ahead of a wait are not counted behind it. */
    private static void goesOnStepsAheadOfAWait() {
        Weave x = Checks.with(LOOP + "a=99;b=A0(0);1:a=a-1;I(a)1;a=98;T(0);2:a=a-1;I(a)2;a=97;c=W;3:a=a-1;I(a)3;E(7);");
        x.start(0, 0, 99);
        Checks.due("199 ahead of A", x.workflow(0, 0), 0);
        x.finish(x.poll(0), 0);
        Checks.due("199 ahead of T", x.workflow(0, 0), 1);
        x.tick(1);
        Checks.due("197 ahead of W", x.workflow(0, 0), 2);
        x.signal(1, 0, 0);
        Checks.due("194 ahead of E", x.workflow(0, 1), 7);
    }

    /** IT GOES ON: "a W or J that finds what it wants doesn't wait": it is counted, and nothing begins anew. */
    private static void goesOnAWOrJThatFinds() {
        for (String found : new String[] {"b=W;", "b=J(c);"}) {
            for (int more = 0; more < 2; more++) {
                Weave x = Checks.with("c=C1(0);a=99;e=A0(0);" + found + LOOP + "d=1;".repeat(more) + "E(7);");
                Checks.tell(x, 1, "E(3);");
                x.start(0, 0, 0);
                x.signal(1, 0, 5);
                x.tick(1);
                x.finish(x.poll(0), 5);
                Checks.due("E as the " + (200 + more) + "th behind " + found, x.workflow(0, 1), more == 0 ? 7 : -1);
            }
            String more = LOOP.replace('0', '1').replace("a", "f");
            Weave x = Checks.with("c=C1(0);e=A0(0);" + LOOP + found + more + "E(7);");
            Checks.tell(x, 1, "E(3);");
            x.start(0, 0, 99);
            x.signal(1, 0, 5);
            x.tick(1);
            x.finish(x.poll(0), 5);
            Checks.due("it is none to count anew from " + found, x.workflow(0, 1), -1);
        }
    }

    /** IT GOES ON: STEPS that have been gone ahead of an ELECTION are counted with those behind it. */
    private static void goesOnCountsThroughAnElection() {
        for (int more = 0; more < 2; more++) {
            Weave x = Checks.with("b=C1(0);" + LOOP + "d=1;".repeat(more) + "E(7);");
            x.fuse(0, 0, 32);
            x.start(0, 0, 99);
            Checks.due("a new leader", x.shard(0, 0), 1);
            Checks.due("E as the " + (200 + more) + "th", x.workflow(0, 1), more == 0 ? 7 : -1);
        }
    }

    // ---- T ----

    /** T: "(X below 0 counts as 0)". */
    private static void goesOnTimesBelow0() {
        for (int x : new int[] {MIN, MIN + 1, -99999, -1, 0}) {
            Weave y = Checks.with("T(a);E(1);");
            y.tick(7);
            y.start(0, 0, x);
            Checks.due("T(" + x + ")", Checks.history(y, 0), "0(0," + x + ")@0 4(7,0)");
            y.tick(1);
            Checks.due("T(" + x + ") fires", Checks.history(y, 0), "0(0," + x + ")@0 4(7,0) 5(8,0) 10(1,0)");
        }
    }

    /** T: "the sum of the clock and X": the tick ahead of it, that tick, and those that have come. */
    private static void goesOnTimes() {
        for (int x = 1; x <= 4; x++) {
            Weave y = Checks.with("T(a);E(1);");
            y.tick(7);
            y.start(0, 0, x);
            Checks.due("its tick", y.event(0, 1, 1), 7 + x);
            for (int i = 1; i <= 5; i++) {
                y.tick(1);
                Checks.due("T(" + x + ") " + i + " ticks later", y.workflow(0, 0), i < x ? 1 : 4);
            }
            Checks.due("fired", y.event(0, 2, 1), 7 + x);
        }
    }

    /** T: "as an int (beyond the greatest it wraps)". */
    private static void goesOnTimesWrap() {
        Weave x = Checks.with("T(a);E(1);");
        x.tick(3);
        x.start(0, 0, MAX - 4);
        x.start(4, 0, MAX - 3);
        x.start(8, 0, MAX - 2);
        x.start(12, 0, MAX);
        int[] ticks = {MAX - 1, MAX, MIN, MIN + 2};
        for (int n = 0; n < 4; n++) {
            Checks.due("tick of workflow " + n, x.event(4 * n, 1, 1), ticks[n]);
        }
        x.tick(1);
        for (int n = 0; n < 4; n++) {
            Checks.due("workflow " + n, x.workflow(4 * n, 0), n < 2 ? 1 : 4);
        }
        Checks.due("fired with the clock", x.event(8, 2, 1), 4);
        x.tick(500);
        x.tick(500);
        Checks.due("it waits still", x.workflow(0, 0) + x.workflow(4, 0), 2);
    }

    // ---- W, C, J, S ----

    /** W: "the first of its SIGNALS that no W took; if there is none, it waits for one". */
    private static void goesOnSignalsInOrder() {
        Weave x = Checks.with("b=A0(0);c=W;d=W;e=W;");
        x.start(0, 0, 0);
        x.signal(9, 0, 11);
        x.signal(8, 0, 12);
        x.finish(x.poll(0), 0);
        Checks.due("c and d", x.query(0, 2) * 100 + x.query(0, 3), 1112);
        Checks.due("it waits for a third one", x.workflow(0, 0), 2);
        Checks.due("none is left", x.workflow(0, 5), 0);
        x.signal(7, 0, 13);
        Checks.due("e", x.query(0, 4), 13);
        Checks.due("it has ended", x.workflow(0, 0), 4);
    }

    /** C: "v is how many children it had before (their numbers are 0, 1, ..)". */
    private static void goesOnNumbersOfChildren() {
        Weave x = Checks.with("h=9;b=C7(5);c=C0(6);d=C3(7);T(1);");
        x.start(0, 0, 0);
        Checks.due("b, c and d", x.query(0, 1) * 100 + x.query(0, 2) * 10 + x.query(0, 3), 12);
        Checks.due("children", x.workflow(0, 4), 3);
        Checks.due("its history", Checks.history(x, 0), "0(0,0)@0 6(7,5) 6(0,6) 6(3,7) 4(1,0)");
    }

    /** J: "-1 at once if it has no such child; else it waits for that"; "(again, too)". */
    private static void goesOnJ() {
        for (int child : new int[] {MIN, -2, -1, 2, 3, MAX}) {
            Weave x = Checks.with("b=C1(0);c=C1(0);d=J(a);");
            x.start(0, 0, child);
            Checks.due("J of " + child, x.query(0, 3), -1);
            Checks.due("at once", x.workflow(0, 0), 4);
        }
        for (int child = 0; child < 2; child++) {
            Weave x = Checks.with("b=C1(31);c=C1(32);d=J(a);e=J(a);T(9);");
            Checks.tell(x, 1, "E(a);");
            x.start(0, 0, child);
            Checks.due("it waits for child " + child, x.workflow(0, 0), 3);
            x.tick(1);
            Checks.due("its value, again, too", x.query(0, 3) * 100 + x.query(0, 4), 3131 + 101 * child);
        }
        Weave x = Checks.with("b=J(0);c=C1(4);d=J(0);");
        Checks.tell(x, 1, "E(a);");
        x.start(0, 0, 0);
        Checks.due("J ahead of its child", x.query(0, 1), -1);
        Checks.due("J behind it waits", x.workflow(0, 0), 3);
    }

    /** S: "to child X, or, for X -1, to its parent; nothing at all if there is none such". */
    private static void goesOnS() {
        for (int child : new int[] {MIN, -2, -1, 0, 1, 2, 3, MAX}) {
            Weave x = Checks.with("b=C1(0);c=C1(0);S(a,8);T(9);");
            x.start(0, 0, child);
            boolean there = child == 0 || child == 1;
            Checks.due("S to " + child, Checks.history(x, 0),
                "0(0," + child + ")@0 6(1,0) 6(1,0) " + (there ? "9(" + child + ",8) " : "") + "4(9,0)");
            Checks.due("messages", x.shard(0, 4), there ? 3 : 2);
        }
        for (int kin : new int[] {-99999, -2, -1, 0, 1, 99999}) {
            Weave x = Checks.with("b=C1(" + kin + ");T(9);");
            Checks.tell(x, 1, "S(a,8);T(9);");
            x.start(0, 0, 0);
            x.tick(1);
            Checks.due("a child's S to " + kin, x.event(1, 1, 0), kin == -1 ? 9 : 4);
        }
    }

    /** "When it has ended ... its TASK is no more, and if it has a parent that EVENT is a message END to that." */
    private static void goesOnWhenItHasEnded() {
        Weave x = Checks.with("b=C1(0);c=A0(0);");
        Checks.tell(x, 1, "b=A0(0);E(b);");
        x.start(0, 0, 0);
        x.tick(1);
        Checks.due("tasks", x.shard(0, 5) * 10 + x.shard(1, 5), 11);
        Checks.due("a parent's end", x.cancel(0), true);
        Checks.due("is no message", x.shard(0, 4), 0);
        Checks.due("its task is no more", x.shard(0, 5), 0);
        Checks.due("its children go on", x.workflow(1, 0), 0);
        Checks.due("poll finds the child's", x.poll(0), 1);
        Checks.due("that is", x.task(1, 0), 1);
        Checks.due("cancel", x.cancel(1), true);
        Checks.due("a child's end is a message", x.shard(1, 4), 1);
        Checks.due("its lease is no more", x.task(1, 0) + x.shard(1, 6), -1);
    }
}
