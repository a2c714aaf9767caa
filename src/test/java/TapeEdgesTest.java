import java.util.function.IntUnaryOperator;

/** The edges of promises 1 to 4, and of the Terms THE TAPE, PROGRAMS, STEPS and FAULTS. */
public final class TapeEdgesTest {
    /** Each kind of STEP once. */
    private static final String[] STEPS = {
        "a=b;", "h=-12345;", "a=b+c;", "b=1-2;", "c=-1*-1;", "d=a<10;", "e=00000=h;", "f=A9(-5);", "g=W;", "h=C7(a);",
        "a=J(1);", "T(99999);", "S(-1,b);", "0:I(a)0;", "9:G9;", "E(h);", "5:a=1;",
    };

    /** Each place where a VALUE stands, as V. */
    private static final String[] PLACES = {
        "a=V;", "a=V+1;", "a=1+V;", "a=b-V;", "a=A0(V);", "a=C0(V);", "a=J(V);", "T(V);", "S(V,1);", "S(1,V);",
        "0:I(V)0;", "E(V);", "b=W;2:a=V;",
    };

    public static void main(String[] args) {
        Checks.runAll(TapeEdgesTest.class);
    }

    private static void good(Weave x, String text, int steps) {
        Checks.put(x, text);
        Checks.due("program of " + text, x.program(0), steps);
        Checks.due("fault of " + text, x.fault(), -1);
    }

    private static void bad(Weave x, String text, int place) {
        Checks.put(x, text);
        Checks.dueThrown("program of " + text, IllegalArgumentException.class, () -> x.program(0));
        Checks.due("fault of " + text, x.fault(), place);
    }

    /** A text in which ? is each character in turn, with the place of its FAULT, NONE if it is a PROGRAM. */
    private static void eachCharacter(String text, int steps, IntUnaryOperator fault) {
        for (char c = 33; c <= 126; c++) {
            String one = text.replace('?', c);
            if (fault.applyAsInt(c) == -1) {
                good(new Weave(), one, steps);
            } else {
                bad(new Weave(), one, fault.applyAsInt(c));
            }
        }
    }

    private static int digitOr(int c, int place) {
        return isDigit(c) ? -1 : place;
    }

    private static boolean beginsAStep(int c) {
        return c >= 'a' && c <= 'h' || "TSIGE".indexOf(c) >= 0;
    }

    private static boolean isDigit(int c) {
        return c >= '0' && c <= '9';
    }

    // ---- Promise 1 ----

    /** Promise 1: "No PROGRAMS, no WORKFLOWS." */
    private static void promise1NoProgramsNoWorkflows() {
        Weave x = new Weave();
        for (int p = 0; p < 8; p++) {
            for (int request = 0; request < 4; request++) {
                Checks.due("start of " + p, x.start(request, p, 0), -1);
            }
        }
        for (int s = 0; s < 4; s++) {
            Checks.due("workflows of shard " + s, x.shard(s, 3), 0);
            Checks.due("records of shard " + s, x.replica(s, 0, 1), 0);
            Checks.due("workflow " + s, x.workflow(s, 0), -1);
        }
        Checks.due("fault", x.fault(), -1);
    }

    // ---- Promise 2 ----

    /** Promise 2: "The n (1 .. 8) lowest bytes of word ... false ... for another n". */
    private static void promise2OneToEightBytes() {
        String text = "a=-12345";
        for (int n = 1; n <= 8; n++) {
            Weave x = new Weave();
            long above = n == 8 ? 0 : -1L << 8 * n;
            Checks.due("n " + n, x.type(above | Checks.word(text.substring(0, n)), n), true);
            bad(x, "", n);
        }
        for (int n : Checks.outside(1, 8)) {
            Weave x = new Weave();
            Checks.due("n " + n, x.type(0x2121212121212121L, n), false);
            good(x, "", 0);
        }
    }

    /** Promise 2: "the highest first". */
    private static void promise2TheHighestFirst() {
        Weave x = new Weave();
        x.type(0x453D6128L, 4);
        bad(x, "", 1);
        x.type(0x453D612831293BL, 4);
        bad(x, "", 0);
        Checks.due("E(1);", x.type(0x452831293BL, 5), true);
        good(x, "", 1);
    }

    /** Promise 2: "a byte that is not 33 .. 126", THE TAPE: "characters, 33 .. 126". */
    private static void promise2BytesFrom33To126() {
        for (int c = 0; c <= 255; c++) {
            Weave x = new Weave();
            boolean fits = c >= 33 && c <= 126;
            Checks.due("byte " + c, x.type(c, 1), fits);
            Checks.due("byte " + c + " as the eighth", x.type(0x6161616161616161L & ~(255L << 56) | (long) c << 56, 8),
                fits);
            Checks.due("byte " + c + " as the fourth", x.type(0x6161616161616161L & ~(255L << 24) | (long) c << 24, 8),
                fits);
            if (!fits) {
                good(x, "", 0);
            }
        }
    }

    /** Promise 2: "changing nothing": not even the bytes ahead of the bad one go to the tape. */
    private static void promise2ARefusedWordChangesNothing() {
        Weave x = new Weave();
        Checks.put(x, "E(");
        for (int bad : new int[] {0, 32, 127, 128, 255}) {
            for (int at = 0; at < 3; at++) {
                long word = Checks.word("12)") & ~(255L << 8 * at) | (long) bad << 8 * at;
                Checks.due("byte " + bad + " at " + at, x.type(word, 3), false);
            }
        }
        Checks.due("n 0", x.type('1', 0), false);
        Checks.due("n 9", x.type('1', 9), false);
        good(x, "7);", 1);
        x.start(0, 0, 0);
        Checks.due("E(7);", x.workflow(0, 1), 7);
    }

    /** Promise 2: "if it would have more than 300", THE TAPE: "at most 300 characters". */
    private static void promise2AtMost300() {
        String text = "a=12;".repeat(60);
        for (int n = 1; n <= 8; n++) {
            Weave x = new Weave();
            Checks.put(x, text.substring(0, 300 - n));
            Checks.due(n + " up to 300", x.type(Checks.word(text.substring(300 - n)), n), true);
            Checks.due("one up to 301", x.type('a', 1), false);
            Checks.due("eight up to 308", x.type(0x6161616161616161L, 8), false);
            good(x, "", 60);
            Checks.put(x, text.substring(0, 301 - n));
            Checks.due(n + " up to 301", x.type(0x6161616161616161L, n), false);
            Checks.put(x, text.substring(301 - n));
            good(x, "", 60);
            Checks.put(x, text.substring(0, 299 - n));
            Checks.due(n + " up to 299", x.type(Checks.word(text.substring(299 - n, 299)), n), true);
            good(x, ";", 60);
        }
    }

    // ---- Promises 3 and 4 ----

    /** Promise 3: "how many STEPS", PROGRAMS: "at most 60 STEPS", FAULTS: "the first of a sixty-first STEP". */
    private static void promise3AtMost60Steps() {
        for (int n : new int[] {0, 1, 2, 30, 58, 59, 60}) {
            good(new Weave(), "E(1);".repeat(n), n);
        }
        for (String more : new String[] {"a=1;", "E(1);", ";", "!", "G5;", "5:a=1;", "5"}) {
            bad(new Weave(), "a=1;".repeat(60) + more, 240);
        }
        bad(new Weave(), "T(1);".repeat(30) + "h=W;".repeat(30) + "b", 270);
    }

    /** Promise 3, PROGRAMS 0 .. 7: "no such p (that ahead; the tape's FAULT isn't looked for)". */
    private static void promise3ProgramsFrom0To7() {
        Weave x = new Weave();
        for (int p = 0; p < 8; p++) {
            Checks.due("program " + p, Checks.tell(x, p, "E(" + p + ");"), 1);
        }
        for (int p : Checks.outside(0, 7)) {
            for (String text : new String[] {"", "E(1);", "?", "G1;"}) {
                bad(x, "!", 0);
                Checks.put(x, text);
                Checks.dueThrown("program " + p, IndexOutOfBoundsException.class, () -> x.program(p));
                Checks.due("fault behind " + p, x.fault(), -1);
                good(x, "", 0);
            }
        }
        for (int p = 1; p < 8; p++) {
            x.start(4 * p, p, 0);
            Checks.due("program " + p + " is what it was", x.workflow(4 * p - 4, 1), p);
        }
    }

    /** Promise 3: "The tape (which is empty then in any case)". */
    private static void promise3TheTapeIsEmptyInAnyCase() {
        Weave x = new Weave();
        good(x, "E(1);E(2);", 2);
        good(x, "", 0);
        bad(x, "E(1);E(2)", 9);
        good(x, "", 0);
        bad(x, "G1;", 1);
        good(x, "", 0);
        Checks.put(x, "E(1);");
        Checks.dueThrown("program 8", IndexOutOfBoundsException.class, () -> x.program(8));
        good(x, "", 0);
        bad(x, "a=12;".repeat(59) + "a=123", 300);
        good(x, "a=12;".repeat(60), 60);
    }

    /** Promise 3: "The tape ... is PROGRAM p": nothing of an earlier tape, good or not, is left in it. */
    private static void promise3NothingOfAnEarlierTape() {
        String[] earlier = {
            "a=9*9;S(5,6);T(7);7:I(8)7;", "7:a=9*9;S(5,6);T(7);I(8)", "h=A9(9);h=C7(9);G5;5:h=J(9);", "5",
        };
        for (String text : earlier) {
            Weave x = new Weave();
            Checks.put(x, text);
            try {
                x.program(1);
            } catch (IllegalArgumentException e) {
                Checks.due("it has a FAULT", x.fault() >= 0, true);
            }
            good(x, "a=3;b=a;c=4;E(b);", 4);
            x.start(0, 0, 0);
            Checks.due("its end behind " + text, x.workflow(0, 1), 3);
            Checks.due("c", x.query(0, 2), 4);
            bad(x, "G7;", 1);
            bad(x, "G5;", 1);
            good(x, "5:a=1;7:a=1;", 2);
        }
    }

    /** Promise 3: "it has a FAULT (the one that there was stays)", also in how many have been told. */
    private static void promise3TheOneThatThereWasStays() {
        Weave x = new Weave();
        good(x, "E(1);", 1);
        bad(x, "E(2)", 4);
        bad(x, "E(3);G1;", 6);
        Checks.due("start", x.start(0, 0, 9), 0);
        Checks.due("its history", Checks.history(x, 0), "0(0,9)@0 10(1,0)");
        good(x, "E(4);", 1);
        x.start(4, 0, 9);
        Checks.due("the second one", Checks.history(x, 4), "0(8,9)@4 10(4,0)");
    }

    /** Promise 3: "(WORKFLOWS that have begun keep theirs.)", also when a new leader builds them again. */
    private static void promise3WorkflowsKeepTheirs() {
        Weave x = Checks.with("b=W;E(1);");
        x.start(0, 0, 0);
        good(x, "E(5);", 1);
        x.start(4, 0, 0);
        x.power(0, 0, false);
        x.signal(1, 0, 0);
        Checks.due("the first one's", x.workflow(0, 1), 1);
        Checks.due("the second one's", x.workflow(4, 1), 5);
    }

    /** Promise 4: "of the latest program(); NONE if there was none, or no such p". */
    private static void promise4OfTheLatest() {
        Weave x = new Weave();
        Checks.due("at first", x.fault(), -1);
        bad(x, "a=1;b", 5);
        Checks.put(x, "E(1);");
        Checks.due("a word changes nothing", x.fault(), 5);
        x.type(0, 1);
        x.tick(1);
        Checks.due("a tick changes nothing", x.fault(), 5);
        Checks.due("program", x.program(1), 1);
        Checks.due("a good one", x.fault(), -1);
        bad(x, "!", 0);
        Checks.dueThrown("program 8", IndexOutOfBoundsException.class, () -> x.program(8));
        Checks.due("no such p", x.fault(), -1);
        bad(x, "a!", 1);
        bad(x, "!a", 0);
        Checks.put(x, "!");
        Checks.dueThrown("program -1", IndexOutOfBoundsException.class, () -> x.program(-1));
        Checks.due("no such p", x.fault(), -1);
    }

    // ---- STEPS ----

    /** FAULTS: "the tape's length, if it ends too early": each beginning of each STEP. */
    private static void faultsTheTapeEndsTooEarly() {
        for (String step : STEPS) {
            Weave x = new Weave();
            good(x, step, 1);
            for (int length = 1; length < step.length(); length++) {
                bad(x, step.substring(0, length), length);
                bad(x, "a=1;" + step.substring(0, length), 4 + length);
            }
        }
    }

    /** FAULTS: "the first character that can't stand there": each place of each STEP. */
    private static void faultsTheFirstCharacter() {
        for (String step : STEPS) {
            for (char c : new char[] {'!', '"', '/', 'x', '~'}) {
                Weave x = new Weave();
                for (int i = 0; i < step.length(); i++) {
                    String text = step.substring(0, i) + c + step.substring(i + 1);
                    bad(x, text, i);
                    bad(x, step.substring(0, i) + c + step.substring(i), i);
                    bad(x, "E(0);" + text + "!", 5 + i);
                }
            }
        }
    }

    /** LOCALS are a .. h, ahead of = and as VALUES. */
    private static void stepsLocalsFromAToH() {
        for (char c : new char[] {'`', 'a', 'b', 'g', 'h', 'i', '@', 'A', 'H'}) {
            boolean local = c >= 'a' && c <= 'h';
            Weave x = new Weave();
            if (local) {
                good(x, c + "=1;", 1);
            } else {
                bad(x, c + "=1;", 0);
            }
            for (String place : PLACES) {
                String text = place.replace('V', c);
                if (local) {
                    good(x, text, text.split(";").length);
                } else if (c != 'A') {
                    bad(x, text, place.indexOf('V'));
                }
            }
        }
    }

    /** A VALUE: "perhaps - and 1 to 5 digits", in each place. */
    private static void stepsValuesOfOneToFiveDigits() {
        String[] fine = {"0", "9", "-0", "-1", "12", "00000", "99999", "-99999", "-12345"};
        String[] wrong = {"", "-", "--1", "-a", "+1", "123456", "-123456", "000000", "1a", "a1", "ab", "-12345a", "1.",
            "W"};
        int[] places = {0, 1, 1, 1, 0, 5, 6, 5, 1, 1, 1, 6, 1, 0};
        for (String place : PLACES) {
            Weave x = new Weave();
            for (String value : fine) {
                good(x, place.replace("V", value), place.split(";").length);
            }
            for (int i = 0; i < wrong.length; i++) {
                if (!wrong[i].equals("W") || !place.matches(".*a=V.*")) {
                    bad(x, place.replace("V", wrong[i]), place.indexOf('V') + places[i]);
                }
            }
        }
    }

    /** v=X: "two with + - * < or = between", no other sign, and no third VALUE. */
    private static void stepsOperators() {
        eachCharacter("a=b?c;", 1, c -> "+-*<=".indexOf(c) >= 0 ? -1 : c == ';' ? 5 : 3);
        for (char one : "+-*<=".toCharArray()) {
            for (char two : "+-*<=".toCharArray()) {
                bad(new Weave(), "a=b" + one + "c" + two + "d;", 5);
                if (two == '-') {
                    good(new Weave(), "a=b" + one + two + "1;", 1);
                } else {
                    bad(new Weave(), "a=b" + one + two + "1;", 4);
                }
            }
        }
    }

    /** v=An(X): "n a digit"; v=Cp(X): "PROGRAM p, 0 .. 7". */
    private static void stepsDigitsOfWorkAndChildren() {
        eachCharacter("a=A?(1);", 1, c -> digitOr(c, 3));
        eachCharacter("a=C?(1);", 1, c -> c >= '0' && c <= '7' ? -1 : 3);
    }

    /** A LABEL: "a digit and :". */
    private static void stepsLabels() {
        eachCharacter("?:a=1;", 1, c -> digitOr(c, beginsAStep(c) ? 1 : 0));
        eachCharacter("1?a=1;", 1, c -> c == ':' ? -1 : 1);
        bad(new Weave(), "12:a=1;", 1);
        bad(new Weave(), "1:2:a=1;", 2);
        bad(new Weave(), "1::a=1;", 2);
        bad(new Weave(), "a=1;1:", 6);
        bad(new Weave(), "1:;", 2);
    }

    /** What a STEP begins with: a LOCAL, T, S, I, G or E. */
    private static void stepsFirstCharacters() {
        eachCharacter("?", 1, c -> beginsAStep(c) || isDigit(c) ? 1 : 0);
        eachCharacter("1:?", 1, c -> beginsAStep(c) ? 3 : 2);
        eachCharacter("a=?", 1, c -> c >= 'a' && c <= 'h' || "AWCJ-".indexOf(c) >= 0 || isDigit(c) ? 3 : 2);
    }

    /** "each with a ; behind it". */
    private static void stepsSemicolons() {
        eachCharacter("a=W?", 1, c -> c == ';' ? -1 : 3);
        eachCharacter("E(1)?E(2);", 2, c -> c == ';' ? -1 : 4);
        bad(new Weave(), ";", 0);
        bad(new Weave(), "a=1;;", 4);
        bad(new Weave(), "a=1", 3);
    }

    // ---- FAULTS of labels ----

    private static final String TEN = "0:a=1;1:a=1;2:a=1;3:a=1;4:a=1;5:a=1;6:a=1;7:a=1;8:a=1;9:a=1;";

    /** "I(X)d, Gd: d a LABEL's digit". */
    private static void faultsDigitsOfJumps() {
        eachCharacter(TEN + "G?;", 11, c -> digitOr(c, 61));
        eachCharacter(TEN + "I(a)?;", 11, c -> digitOr(c, 64));
        eachCharacter("G?;" + TEN, 11, c -> digitOr(c, 1));
    }

    /** FAULTS: "the digit of a LABEL that an earlier one has". */
    private static void faultsALabelTwice() {
        for (char d = '0'; d <= '9'; d++) {
            bad(new Weave(), TEN + d + ":a=1;", 60);
            bad(new Weave(), d + ":a=1;" + d + ":a=2;", 6);
            bad(new Weave(), d + ":a=1;a=2;" + d + ":a=2;!", 10);
            bad(new Weave(), "G" + d + ";" + d + ":a=1;G" + d + ";" + d + ":a=1;", 12);
        }
        bad(new Weave(), "1:a=1;2:a=1;1:a=1;2:a=1;", 12);
    }

    /** FAULTS: "if there is none, the first digit of I or G for which there is no LABEL". */
    private static void faultsNoSuchLabel() {
        for (char d = '0'; d <= '9'; d++) {
            bad(new Weave(), "G" + d + ";", 1);
            bad(new Weave(), "I(a)" + d + ";", 4);
            bad(new Weave(), TEN.replace(d + ":", "") + "I(1)" + d + ";G" + d + ";", 62);
            good(new Weave(), "G" + d + ";" + d + ":E(1);", 2);
            good(new Weave(), d + ":I(a)" + d + ";", 1);
        }
        bad(new Weave(), "0:G0;G1;I(1)2;", 6);
        bad(new Weave(), "0:G0;I(1)2;G1;", 9);
        bad(new Weave(), "G3;I(3)4;3:G5;", 7);
    }

    /** FAULTS: a missing LABEL counts only if there is no other FAULT, however far behind. */
    private static void faultsNoSuchLabelComesLast() {
        bad(new Weave(), "G1;!", 3);
        bad(new Weave(), "G1;a=1", 6);
        bad(new Weave(), "G1;2:a=1;2:a=1;", 9);
        bad(new Weave(), "G1;" + "a=1;".repeat(59) + "a=1;", 239);
        bad(new Weave(), "G1;" + "a=1;".repeat(59), 1);
    }

    /** FAULTS: "No STEPS are a PROGRAM, too." */
    private static void faultsNoStepsAreAProgram() {
        Weave x = new Weave();
        good(x, "", 0);
        Checks.due("start", x.start(2, 0, 6), 2);
        Checks.due("it ends behind the last STEP", Checks.history(x, 2), "0(0,6)@2 10(0,0)");
    }

    /** STEPS and FAULTS: each STEP with one character changed to each other, left out or put in, as the Model tells. */
    private static void faultsOneCharacterChanged() {
        for (String step : STEPS) {
            for (int i = 0; i <= step.length(); i++) {
                String behind = step.substring(Math.min(i + 1, step.length()));
                for (char c = 33; c <= 126; c++) {
                    asTheModel(step.substring(0, i) + c + behind);
                    asTheModel(step.substring(0, i) + c + step.substring(i));
                }
                asTheModel(step.substring(0, i) + behind);
            }
        }
    }

    private static void asTheModel(String text) {
        Weave x = new Weave();
        Model y = new Model();
        for (int from = 0; from < text.length(); from += 8) {
            String part = text.substring(from, Math.min(text.length(), from + 8));
            x.type(Checks.word(part), part.length());
            y.type(Checks.word(part), part.length());
        }
        int got = steps(x::program);
        int want = steps(y::program);
        Checks.due("program of " + text, got, want);
        Checks.due("fault of " + text, x.fault(), y.fault());
    }

    private static int steps(IntUnaryOperator program) {
        try {
            return program.applyAsInt(3);
        } catch (IllegalArgumentException e) {
            return -1;
        }
    }
}
