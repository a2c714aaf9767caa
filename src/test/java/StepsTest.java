/** What the steps do (promises 5, 8, 18 and 19 show it), how far it goes at once, and the sixtieth event. */
public final class StepsTest {
    public static void main(String[] args) {
        reckoning();
        jumps();
        ends();
        timers();
        signals();
        children();
        twoHundredSteps();
        countsAnewBehindWaits();
        sixtiethEvent();
        sixtiethFromOutside();
        Checks.end();
    }

    private static int endOf(String text, int argument) {
        Weave x = Checks.with(text);
        Checks.due("start", x.start(0, 0, argument), 0);
        Checks.due(text + " has ended", x.workflow(0, 0), 4);
        return x.workflow(0, 1);
    }

    private static void reckoning() {
        int big = Integer.MAX_VALUE;
        Checks.due("a=a", endOf("E(a);", 7), 7);
        Checks.due("others are 0", endOf("c=b+h;E(c);", 7), 0);
        Checks.due("+ wraps", endOf("b=a+1;E(b);", big), Integer.MIN_VALUE);
        Checks.due("- wraps", endOf("b=a-1;E(b);", Integer.MIN_VALUE), big);
        Checks.due("* wraps", endOf("b=a*a;E(b);", 65537), 131073);
        Checks.due("1--2", endOf("b=1--2;E(b);", 0), 3);
        Checks.due("1+-2", endOf("b=1+-2;E(b);", 0), -1);
        Checks.due("<", endOf("b=-2<a;E(b);", -1), 1);
        Checks.due("< of the same", endOf("b=a<-1;E(b);", -1), 0);
        Checks.due("< at the ends", endOf("b=a<0;E(b);", Integer.MIN_VALUE), 1);
        Checks.due("=", endOf("b=a=5;E(b);", 5), 1);
        Checks.due("= of others", endOf("b=a=5;E(b);", 6), 0);
        Checks.due("five digits", endOf("b=-99999;E(b);", 0), -99999);
        Checks.due("a local from itself", endOf("a=a*a;E(a);", 9), 81);
        Weave x = Checks.with("b=1;c=2;d=3;e=4;f=5;g=6;h=7;b=W;");
        x.start(1, 0, -9);
        int[] locals = {-9, 1, 2, 3, 4, 5, 6, 7};
        for (int v = 0; v < 8; v++) {
            Checks.due("local " + v, x.query(1, v), locals[v]);
        }
    }

    private static void jumps() {
        Checks.due("I goes", endOf("I(a)1;E(1);1:E(2);", -1), 2);
        Checks.due("I stays", endOf("I(a)1;E(1);1:E(2);", 0), 1);
        Checks.due("a loop", endOf("0:b=b+a;a=a-1;I(a)0;E(b);", 10), 55);
        Checks.due("G", endOf("G1;0:E(1);1:G0;", 0), 1);
    }

    private static void ends() {
        Weave x = Checks.with("");
        Checks.due("start", x.start(0, 0, 5), 0);
        Checks.due("no steps", Checks.history(x, 0), "0(0,5)@0 10(0,0)");
        Checks.tell(x, 0, "a=3;");
        x.start(4, 0, 5);
        Checks.due("behind the last step", Checks.history(x, 4), "0(8,5)@4 10(0,0)");
        Checks.due("a", x.query(4, 0), 3);
        Checks.tell(x, 0, "E(a);a=9;");
        x.start(8, 0, 5);
        Checks.due("E", Checks.history(x, 8), "0(16,5)@8 10(5,0)");
        Checks.due("nothing behind E", x.query(8, 0), 5);
    }

    private static void timers() {
        Weave x = Checks.with("T(a);T(-7);T(0);E(1);");
        x.tick(3);
        x.start(0, 0, 4);
        Checks.due("it waits for time", x.workflow(0, 0), 1);
        x.tick(3);
        Checks.due("not yet", Checks.history(x, 0), "0(0,4)@0 4(7,0)");
        x.tick(1);
        Checks.due("fired, then below 0 is 0", Checks.history(x, 0), "0(0,4)@0 4(7,0) 5(7,0) 4(7,0)");
        x.tick(1);
        Checks.due("the next tick", Checks.history(x, 0), "0(0,4)@0 4(7,0) 5(7,0) 4(7,0) 5(8,0) 4(8,0)");
        x.tick(1);
        Checks.due("its end", x.workflow(0, 0), 4);
        x.start(4, 0, Integer.MAX_VALUE);
        Checks.due("the tick wraps", x.event(4, 1, 1), Integer.MAX_VALUE + 9);
        x.tick(1);
        Checks.due("that is past", x.event(4, 2, 0), 5);
        Checks.due("with the clock", x.event(4, 2, 1), 10);
    }

    private static void signals() {
        Weave x = Checks.with("b=W;c=A0(0);d=W;e=W;E(e);");
        x.start(2, 0, 0);
        Checks.due("it waits for a signal", x.workflow(2, 0), 2);
        x.signal(1, 2, 11);
        Checks.due("b", x.query(2, 1), 11);
        Checks.due("it waits for work", x.workflow(2, 0), 0);
        x.signal(2, 2, 12);
        x.signal(3, 2, 13);
        x.signal(4, 2, 14);
        Checks.due("signals that no W took", x.workflow(2, 5), 3);
        Checks.due("it waits for work still", x.workflow(2, 0), 0);
        x.finish(x.poll(0), 1);
        Checks.due("it took two", x.workflow(2, 1), 13);
        Checks.due("one is left when it has ended", x.workflow(2, 5), 1);
        Checks.due("its history", Checks.history(x, 2),
            "0(0,0)@2 8(11,0)@1 1(0,0) 8(12,0)@2 8(13,0)@3 8(14,0)@4 2(1,0) 10(13,0)");
    }

    private static void children() {
        Weave x = Checks.with("b=J(0);b=C1(5);c=C1(6);d=J(2);e=J(-1);f=J(c);g=J(c);E(f);");
        Checks.tell(x, 1, "a=a*2;E(a);");
        x.start(0, 0, 0);
        Checks.due("J without such a child", x.query(0, 3), -1);
        Checks.due("J below 0", x.query(0, 4), -1);
        Checks.due("numbers of children", x.query(0, 1) * 10 + x.query(0, 2), 1);
        Checks.due("it waits for a child", x.workflow(0, 0), 3);
        Checks.due("children", x.workflow(0, 4), 2);
        x.tick(1);
        Checks.due("its history", Checks.history(x, 0), "0(0,0)@0 6(1,5) 6(1,6) 7(0,10) 7(1,12) 10(12,0)");
        Checks.due("J again", x.query(0, 6), 12);
        Checks.due("child 0", Checks.history(x, 1), "0(1,5)@-1 10(10,0)");
        Checks.due("child 1", Checks.history(x, 5), "0(1,6)@-2 10(12,0)");
        Checks.due("its parent", x.workflow(5, 6), 0);
    }

    private static void twoHundredSteps() {
        Weave x = Checks.with("0:a=a+1;G0;");
        x.start(0, 0, 0);
        Checks.due("a loop without end", Checks.history(x, 0), "0(0,0)@0 12(-1,0)");
        Checks.due("200 steps", x.query(0, 0), 100);
        Checks.due("its end", x.workflow(0, 1), -1);
        Checks.tell(x, 0, "0:a=a-1;I(a)0;");
        x.start(4, 0, 100);
        Checks.due("the end behind the 200th isn't counted", Checks.history(x, 4), "0(8,100)@4 10(0,0)");
        x.start(8, 0, 101);
        Checks.due("the 201st step", Checks.history(x, 8), "0(8,101)@8 12(-1,0)");
        Checks.tell(x, 0, "0:a=a-1;I(a)0;E(7);");
        x.start(12, 0, 100);
        Checks.due("an E that is the 201st", x.workflow(12, 1), -1);
        x.start(16, 0, 99);
        Checks.due("an E that is the 199th", x.workflow(16, 1), 7);
        Checks.tell(x, 0, "b=0;0:a=a-1;I(a)0;S(-1,1);S(0,1);E(7);");
        x.start(20, 0, 98);
        Checks.due("an S that does nothing is a step", x.workflow(20, 1), 7);
        x.start(24, 0, 99);
        Checks.due("an E behind 201 steps", x.workflow(24, 1), -1);
        Checks.tell(x, 0, "b=W;0:b=J(9);G0;");
        x.start(28, 0, 0);
        x.signal(1, 28, 0);
        Checks.due("a J that has no child", x.workflow(28, 1), -1);
    }

    private static void countsAnewBehindWaits() {
        Weave x = Checks.with("0:a=a-1;I(a)0;c=A0(0);a=100;1:a=a-1;I(a)1;T(0);a=99;2:a=a-1;I(a)2;d=1;E(5);");
        x.start(0, 0, 99);
        x.finish(x.poll(0), 1);
        Checks.due("201 steps since it waited", x.workflow(0, 1), -1);
        Checks.tell(x, 0, "0:a=a-1;I(a)0;c=A0(0);a=99;1:a=a-1;I(a)1;T(0);a=99;2:a=a-1;I(a)2;E(5);");
        x.start(4, 0, 99);
        x.finish(x.poll(0), 1);
        Checks.due("199 steps, and T", x.workflow(4, 0), 1);
        x.tick(1);
        Checks.due("200 steps", x.workflow(4, 1), 5);
        Checks.tell(x, 0, "0:a=a-1;I(a)0;c=W;E(6);");
        x.start(8, 0, 99);
        Checks.due("W as the 199th", x.workflow(8, 0), 2);
        x.start(12, 0, 100);
        Checks.due("W as the 201st", x.workflow(12, 1), -1);
        Checks.tell(x, 0, "c=A0(0);c=W;0:a=a-1;I(a)0;d=1;E(6);");
        x.start(16, 0, 99);
        x.signal(1, 16, 0);
        x.finish(x.poll(0), 1);
        Checks.due("a W that finds its signal is counted", x.workflow(16, 1), -1);
        Checks.tell(x, 0, "c=A0(0);c=W;0:a=a-1;I(a)0;E(6);");
        x.start(20, 0, 99);
        x.signal(1, 20, 0);
        x.finish(x.poll(0), 1);
        Checks.due("with 200 in all", x.workflow(20, 1), 6);
        Checks.tell(x, 0, "c=A0(0);c=W;0:a=a-1;I(a)0;d=1;E(6);");
        x.start(24, 0, 99);
        x.finish(x.poll(0), 1);
        x.signal(1, 24, 0);
        Checks.due("a W that waited isn't", x.workflow(24, 1), 6);
        for (int early = 0; early < 2; early++) {
            Weave y = Checks.with("b=C1(0);c=A0(0);d=J(b);0:a=a-1;I(a)0;e=1;E(d);");
            Checks.tell(y, 1, "b=W;E(b);");
            y.start(0, 0, 99);
            y.tick(1);
            y.poll(0);
            Checks.due("finish", early == 1 || y.finish(1, 0), true);
            y.signal(1, 1, 8);
            y.tick(1);
            Checks.due("finish", early == 0 || y.finish(1, 0), true);
            Checks.due("a J that waited isn't, one that finds its end is", y.workflow(0, 1), early == 1 ? -1 : 8);
        }
    }

    private static void sixtiethEvent() {
        Weave x = Checks.with("0:b=C7(0);a=a-1;I(a)0;E(5);");
        x.start(0, 0, 58);
        Checks.due("58 children and an end", x.workflow(0, 2), 60);
        Checks.due("its end", x.workflow(0, 1), 5);
        x.start(4, 0, 59);
        Checks.due("60 events", x.workflow(4, 2), 60);
        Checks.due("OVER in the place of the last child", x.event(4, 59, 0), 12);
        Checks.due("children", x.workflow(4, 4), 58);
        Checks.due("b is not set", x.query(4, 1), 57);
        Checks.due("it ended with", x.workflow(4, 1), -1);
        Checks.due("messages", x.shard(0, 4), 116);
        Checks.tell(x, 0, "0:T(0);b=A0(b);G0;");
        x.start(8, 0, 0);
        for (int i = 0; i < 14; i++) {
            x.tick(1);
            Checks.due("finish", x.finish(x.poll(0), i), true);
        }
        Checks.due("58 events", x.workflow(8, 2), 58);
        x.tick(1);
        Checks.due("the task would be the sixtieth", x.event(8, 59, 0), 12);
        Checks.due("so there is none", x.shard(0, 5), 0);
        Checks.due("poll", x.poll(0), -1);
    }

    private static void sixtiethFromOutside() {
        Weave x = Checks.with("b=A0(3);E(b);");
        for (int w = 0; w < 16; w += 4) {
            x.start(w, 0, 0);
            for (int i = 0; i < 57; i++) {
                Checks.due("signal", x.signal(100 + i, w, i), true);
            }
            Checks.due("59 events", x.workflow(w, 2), 59);
        }
        Checks.due("the sixtieth", x.signal(7, 0, 9), true);
        Checks.due("is OVER", x.event(0, 59, 0) * 100 + x.event(0, 59, 1), 1199);
        Checks.due("without an origin", x.event(0, 59, 3), 0);
        Checks.due("so that signal isn't there", x.signal(7, 0, 9), false);
        Checks.due("an earlier one is", x.signal(100, 0, 9), true);
        Checks.due("signals that no W took", x.workflow(0, 5), 57);
        Checks.due("poll", x.poll(0), 1);
        Checks.due("its workflow", x.task(1, 0), 4);
        Checks.due("finish", x.finish(1, 5), true);
        Checks.due("is OVER, too", x.event(4, 59, 0), 12);
        Checks.due("it ended with", x.workflow(4, 1), -1);
        Checks.due("b is not set", x.query(4, 1), 0);
        Checks.due("cancel", x.cancel(8), true);
        Checks.due("is no OVER", x.event(8, 59, 0) * 100 + x.event(8, 59, 1), 1098);
        for (int token = 2; token < 5; token++) {
            Checks.due("poll", x.poll(0), token);
            Checks.due("fail", x.fail(token), true);
            x.tick(8);
        }
        Checks.due("poll", x.poll(0), 5);
        Checks.due("the fifth try", x.fail(5), true);
        Checks.due("OVER in the place of GIVEN UP", x.event(12, 59, 0), 12);
    }
}
