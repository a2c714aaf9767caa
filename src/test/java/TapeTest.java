/** Promises 1 to 4: a new object, type, program and fault, with the grammar and its faults. */
public final class TapeTest {
    private static final String LONGEST_STEPS = "a=1;".repeat(60);

    public static void main(String[] args) {
        newObject();
        words();
        tapeLength();
        goodTexts();
        faults();
        sixtySteps();
        labels();
        programNumbers();
        versions();
        Checks.end();
    }

    private static void newObject() {
        Weave x = new Weave();
        Checks.due("fault of a new object", x.fault(), -1);
        for (int p = -1; p <= 8; p++) {
            Checks.due("start of program " + p, x.start(0, p, 0), -1);
        }
        for (int w = -1; w <= 64; w++) {
            for (int what = 0; what <= 6; what++) {
                Checks.due("workflow " + w, x.workflow(w, what), -1);
            }
        }
        int[] shard = {0, 0, 3, 0, 0, 0, 0};
        int[] replica = {1, 0, 0, -1};
        for (int s = 0; s < 4; s++) {
            for (int what = 0; what < 7; what++) {
                Checks.due("shard " + s + "," + what, x.shard(s, what), shard[what]);
            }
            for (int r = 0; r < 3; r++) {
                for (int what = 0; what < 4; what++) {
                    Checks.due("replica " + what, x.replica(s, r, what), replica[what]);
                }
            }
            Checks.due("replica 3", x.replica(s, 3, 0), -1);
            Checks.due("disk", x.disk(s, 0, 0, 0), -1);
        }
        Checks.due("poll", x.poll(0), -1);
        Checks.due("the clock was 0", x.tick(1), 1);
        Weave other = Checks.with("E(1);");
        Checks.due("start", other.start(0, 0, 0), 0);
        Checks.due("another object's workflow", x.workflow(0, 0), -1);
        Checks.due("another object's clock", other.tick(1), 1);
    }

    private static void words() {
        Weave x = new Weave();
        Checks.due("n 0", x.type(Checks.word("E(1);"), 0), false);
        Checks.due("n 9", x.type(Checks.word("E(1);"), 9), false);
        Checks.due("n -1", x.type(Checks.word("E(1);"), -1), false);
        Checks.due("n least", x.type(65, Integer.MIN_VALUE), false);
        Checks.due("n greatest", x.type(65, Integer.MAX_VALUE), false);
        Checks.due("byte 32", x.type(32, 1), false);
        Checks.due("byte 127", x.type(127, 1), false);
        Checks.due("byte 0 ahead", x.type(Checks.word("E(1);"), 6), false);
        Checks.due("byte 255 ahead", x.type(-1L << 8 | 'E', 2), false);
        Checks.due("a bad byte last", x.type('E' << 8 | 32, 2), false);
        Checks.due("nothing came of that", x.program(0), 0);
        Checks.due("bytes above the n lowest aren't looked at", x.type(-1L << 8 | 'E', 1), true);
        Checks.due("the highest goes first", x.type(Checks.word("(12);"), 5), true);
        Checks.due("E(12);", x.program(0), 1);
        Checks.due("start", x.start(0, 0, 0), 0);
        Checks.due("its end", x.workflow(0, 1), 12);
        Checks.due("eight bytes", x.type(Checks.word("a=1+123;"), 8), true);
        Checks.due("eight bytes more", x.type(Checks.word("b=a+100;"), 8), true);
        Checks.due("three steps", Checks.tell(x, 0, "E(b);"), 3);
        x.start(4, 0, 0);
        Checks.due("its end", x.workflow(4, 1), 224);
        Checks.due("33 is on the tape", x.type(33, 1), true);
        faultAt(x, "", 0);
        Checks.due("126 is on the tape", x.type(126, 1), true);
        faultAt(x, "", 0);
    }

    private static void tapeLength() {
        Weave x = new Weave();
        Checks.put(x, LONGEST_STEPS + "x".repeat(55));
        Checks.due("six more would be 301", x.type(Checks.word("yyyyyy"), 6), false);
        Checks.due("five more are 300", x.type(Checks.word("yyyyy"), 5), true);
        Checks.due("one more is 301", x.type('y', 1), false);
        faultAt(x, "", 240);
        Checks.due("it is empty then", x.type('y', 1), true);
    }

    private static void goodTexts() {
        Weave x = new Weave();
        String[] good = {
            "", "a=b;", "h=-99999;", "a=1--2;", "a=1+-2;", "a=-1*-1;", "c=a<b;", "c=a=b;", "c=1=1;", "d=A0(1);",
            "d=A9(-5);", "d=W;", "e=C0(a);", "e=C7(0);", "f=J(0);", "T(5);", "T(-1);", "S(0,1);", "S(a,-3);", "E(h);",
            "0:I(a)0;", "9:G9;", "G1;1:E(0);", "a=00012;", "0:1:".substring(0, 2) + "a=1;",
        };
        for (String text : good) {
            Checks.due(text, Checks.tell(x, 3, text), text.isEmpty() ? 0 : text.split(";").length);
            Checks.due("no fault in " + text, x.fault(), -1);
        }
        String digits = "0:a=1;1:a=1;2:a=1;3:a=1;4:a=1;5:a=1;6:a=1;7:a=1;8:a=1;9:a=1;";
        Checks.due("ten labels", Checks.tell(x, 3, digits), 10);
    }

    private static void faultAt(Weave x, String text, int want) {
        Checks.put(x, text);
        Checks.dueThrown("program of " + text, IllegalArgumentException.class, () -> x.program(0));
        Checks.due("fault of " + text, x.fault(), want);
    }

    private static void faults() {
        Weave x = new Weave();
        Object[][] all = {
            {"a", 1}, {"a=", 2}, {"a=1", 3}, {"E(1)", 4}, {"E(1);;", 5}, {";", 0}, {"i=1;", 0}, {"A=1;", 0},
            {"a+1;", 1}, {"a==1;", 2}, {"a=i;", 2}, {"a=123456;", 7}, {"a=-123456;", 8}, {"a=-;", 3},
            {"a=--1;", 3}, {"a=-a;", 3},
            {"a=1+;", 4}, {"a=1+2+3;", 5}, {"a=1>2;", 3}, {"a=1/2;", 3}, {"a=a1;", 3}, {"a=1a;", 3}, {"a=A;", 3},
            {"a=Aa(1);", 3}, {"a=A1;", 4}, {"a=A1(;", 5}, {"a=A1(1;", 6}, {"a=A1();", 5}, {"a=A12(1);", 4},
            {"a=A1(1+1);", 6}, {"a=w;", 2}, {"a=W(1);", 3}, {"a=WW;", 3}, {"a=C8(1);", 3}, {"a=C9(1);", 3},
            {"a=C(1);", 3}, {"a=J0(1);", 3}, {"a=J(1,2);", 5}, {"a=T(1);", 2}, {"T1;", 1}, {"T(1;", 3}, {"S(1);", 3},
            {"S(1,2;", 5}, {"S(1,,2);", 4}, {"S(1,2,3);", 5}, {"I(1);", 4}, {"I1;", 1}, {"I(1)a;", 4}, {"I(1)12;", 5},
            {"G;", 1}, {"Ga;", 1}, {"G12;", 2}, {"E;", 1}, {"E();", 2}, {"1", 1}, {"1:", 2}, {"1;", 1}, {"1:;", 2},
            {"11:a=1;", 1}, {"1:2:a=1;", 2}, {"1:a=1;:", 6}, {"a=1;!", 4}, {"a=1;b", 5}, {"E(1)E(2);", 4}, {"~", 0},
            {"a=1,", 3}, {"a=-12345-;", 9}, {"W;", 0}, {"C1(1);", 0}, {"J(1);", 0}, {"a=G1;", 2}, {"a=S(1,1);", 2},
        };
        for (Object[] one : all) {
            faultAt(x, (String) one[0], (Integer) one[1]);
        }
        Checks.due("the empty text behind a fault", x.program(0), 0);
        Checks.due("no fault", x.fault(), -1);
    }

    private static void sixtySteps() {
        Weave x = new Weave();
        Checks.due("sixty steps", Checks.tell(x, 0, LONGEST_STEPS), 60);
        faultAt(x, LONGEST_STEPS + "a=1;", 240);
        faultAt(x, LONGEST_STEPS + ")", 240);
        faultAt(x, LONGEST_STEPS + "1:a=1;", 240);
        faultAt(x, "G7;" + "a=1;".repeat(59) + "E", 239);
        faultAt(x, "a=1;".repeat(59) + "a=", 238);
    }

    private static void labels() {
        Weave x = new Weave();
        faultAt(x, "1:a=1;1:a=2;", 6);
        faultAt(x, "1:a=1;2:a=1;1:a=2;G3;", 12);
        faultAt(x, "1:a=1;1", 6);
        faultAt(x, "G1;", 1);
        faultAt(x, "I(a)1;G2;", 4);
        faultAt(x, "1:I(a)1;G2;I(0)3;", 9);
        faultAt(x, "G1;b", 4);
        faultAt(x, "G1;a=1;2:E(0);x", 14);
        Checks.due("a label ahead and one behind", Checks.tell(x, 0, "G1;0:E(5);1:G0;"), 3);
        x.start(0, 0, 0);
        Checks.due("it goes there", x.workflow(0, 1), 5);
    }

    private static void programNumbers() {
        Weave x = new Weave();
        for (int p = 0; p < 8; p++) {
            Checks.due("program " + p, Checks.tell(x, p, "E(" + p + ");"), 1);
        }
        for (int p = 0; p < 8; p++) {
            Checks.due("start", x.start(4 * p, p, 0), 4 * p);
            Checks.due("program " + p + " ends with", x.workflow(4 * p, 1), p);
            Checks.due("its program", x.workflow(4 * p, 3), p);
        }
        for (int p : new int[] {-1, 8, Integer.MIN_VALUE, Integer.MAX_VALUE}) {
            faultAt(x, "?", 0);
            Checks.put(x, "??");
            Checks.dueThrown("program(" + p + ")", IndexOutOfBoundsException.class, () -> x.program(p));
            Checks.due("fault behind program(" + p + ")", x.fault(), -1);
            Checks.due("the tape is empty", x.program(7), 0);
        }
    }

    private static void versions() {
        Weave x = Checks.with("b=W;E(1);");
        x.start(0, 0, 3);
        faultAt(x, "E(2)", 4);
        x.start(4, 0, 3);
        Checks.due("the one that there was stays", Checks.history(x, 4), "0(0,3)@4");
        Checks.tell(x, 0, "b=W;E(2);");
        x.start(8, 0, 3);
        Checks.due("the next one", Checks.history(x, 8), "0(8,3)@8");
        Checks.tell(x, 0, "b=W;E(3);");
        Checks.tell(x, 1, "b=W;E(4);");
        x.start(12, 0, 3);
        x.start(16, 1, 3);
        Checks.due("the third one", x.event(12, 0, 1), 16);
        Checks.due("another program's first one", x.event(16, 0, 1), 1);
        int[] ends = {1, 1, 2, 3, 4};
        x.power(0, 0, false);
        for (int n = 0; n < 5; n++) {
            x.signal(50, 4 * n, 0);
            Checks.due("workflows keep theirs", x.workflow(4 * n, 1), ends[n]);
        }
    }
}
