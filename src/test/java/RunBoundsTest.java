import java.lang.reflect.Field;

/** The bounds of start(), run(), turn(), state() and trace(), and of the calendar; each test bears the sentence of the document. */
public final class RunBoundsTest {
    private static final int BAD = EventHall.BAD, NONE = EventHall.NONE, NO_VALUE = -2_000_000_000;
    private static final int LEAST = Integer.MIN_VALUE, GREATEST = Integer.MAX_VALUE;
    private static final int[] OTHER_STEPS = {0, -1, 20_001, 20_002, LEAST, GREATEST};

    private RunBoundsTest() {
    }

    public static void main(String[] args) {
        startOfNoDefinition();
        startGivesTheFirstOfFour();
        startAtTheTime();
        startOfA301st();
        startAmidATurn();
        runOfAnotherNumber();
        runUpToItsSteps();
        runOfAnEmptyCalendar();
        runGoesOnWithATurn();
        turnOfAnotherNumber();
        turnWithinItsSteps();
        turnOfTheLastProcess();
        turnOfAnEmptyCalendar();
        behindTheEndOfABlock();
        whileIsLookedAtAgain();
        firstInLine();
        turnsEndWhereTheyMust();
        stateOfAnotherNumber();
        stateOfNothingRead();
        stateOfTheFirstAndTheLast();
        stepsModulo2ToThe30th();
        linesThatAreKept();
        traceOfNoneSuch();
        traceOfTheUtmost();
        Due.close();
    }

    /** A hall with a process of the first definition. */
    private static EventHall started(String text) {
        EventHall hall = Due.hall(text);
        Due.is("start", hall.start(0, 0, 0, 0, 0), 0);
        return hall;
    }

    /** "BAD: nothing read, no such definition; .." Of start(). */
    private static void startOfNoDefinition() {
        for (int count = 0; count <= 12; count++) {
            EventHall hall = Due.hall(Texts.numbered("process ", "p", 1, count, "() { }"));
            Due.is("start(-1)", hall.start(-1, 0, 0, 0, 0), BAD);
            Due.is("none behind the last", hall.start(count, 0, 0, 0, 0), BAD);
            Due.is("start of the least", hall.start(LEAST, 0, 0, 0, 0), BAD);
            Due.is("start of the greatest", hall.start(GREATEST, 0, 0, 0, 0), BAD);
            Due.is("nothing was started", hall.state(3), 0);
            Due.is("the last", hall.start(count - 1, 0, 0, 0, 0), count == 0 ? BAD : 0);
            Due.is("its definition", hall.process(0, 0), count == 0 ? NO_VALUE : count - 1);
        }
        EventHall nothingRead = new EventHall();
        Due.is("nothing read", nothingRead.start(0, 0, 0, 0, 0), BAD);
    }

    /** "its parameters being the first of these four": none to all eight, the lets not. */
    private static void startGivesTheFirstOfFour() {
        int[] given = {LEAST, GREATEST, -1, NO_VALUE};
        for (int parameters = 0; parameters <= 8; parameters++) {
            String told = parameters == 0 ? "" : Texts.numbered(", ", "a", 1, parameters, "").substring(2);
            EventHall hall = Due.hall("process p(" + told + ") { " + Texts.numbered("let ", "a", parameters + 1, 8, " = 1; ") + "}");
            hall.start(0, given[0], given[1], given[2], given[3]);
            for (int i = 0; i < 8; i++) {
                Due.is("value " + i + " of " + parameters, hall.process(0, 10 + i), i < parameters && i < 4 ? given[i] : 0);
            }
            Due.is("no ninth", hall.process(0, 18), NO_VALUE);
        }
    }

    /** "A process of definition d is started from outside, READY at the TIME": at TIME 0, and at the utmost. */
    private static void startAtTheTime() {
        EventHall hall = started("process p() { hold 999999999; hold 1; } process q() { say 1; }");
        Due.isProcess(hall, 0, 0, 0, NONE, 0, 0, 0);
        hall.run(2);
        Due.is("at 999,999,999", hall.start(1, 0, 0, 0, 0), 1);
        Due.isProcess(hall, 1, 0, 999_999_999, NONE, 0, 0, 999_999_999);
        hall.run(9);
        Due.is("at 1,000,000,000", hall.start(1, 0, 0, 0, 0), 2);
        Due.isProcess(hall, 2, 0, 1_000_000_000, NONE, 0, 0, 1_000_000_000);
        hall.run(9);
        Due.isTrace(hall, 999_999_999, 1, 1_000_000_000, 1);
    }

    /** "BAD: .. a 301st process; .." Of start(): also if all have ended. */
    private static void startOfA301st() {
        EventHall hall = Due.hall("process p() { }");
        for (int i = 0; i < 300; i++) {
            Due.is("start", hall.start(0, 0, 0, 0, 0), i);
        }
        Due.is("the 301st", hall.start(0, 0, 0, 0, 0), BAD);
        Due.is("300 were started", hall.state(3), 300);
        hall.run(1);
        Due.is("300 have ended", hall.state(6), 300);
        Due.is("the 301st still", hall.start(0, 0, 0, 0, 0), BAD);
        Due.is("the last one", hall.process(299, 1), 5);
        Due.is("none behind it", hall.process(300, 1), NO_VALUE);
    }

    /** "BAD: .. amid a TURN." Of start(): and no longer than amid it. */
    private static void startAmidATurn() {
        EventHall hall = started("process p() { say 1; say 2; hold 1; say 3; }");
        hall.run(1);
        Due.is("amid", hall.start(0, 0, 0, 0, 0), BAD);
        hall.run(1);
        Due.is("amid still", hall.start(0, 0, 0, 0, 0), BAD);
        Due.is("none was started", hall.state(3), 1);
        hall.run(1);
        Due.is("behind the TURN", hall.start(0, 0, 0, 0, 0), 1);
        Due.is("no such definition", hall.start(1, 0, 0, 0, 0), BAD);
    }

    /** "Up to n (1 .. 20,000) STEPS are done"; "BAD: nothing read, another n." Of run(). */
    private static void runOfAnotherNumber() {
        EventHall hall = started("process p() { while 1 { } }");
        for (int n : OTHER_STEPS) {
            Due.is("run(" + n + ")", hall.run(n), BAD);
        }
        Due.is("no STEP", hall.state(1), 0);
        Due.is("not amid", hall.state(10), NONE);
        Due.is("run(1)", hall.run(1), 1);
        Due.is("run(2)", hall.run(2), 2);
        Due.is("run(19,999)", hall.run(19_999), 19_999);
        Due.is("run(20,000)", hall.run(20_000), 20_000);
        for (int n : OTHER_STEPS) {
            Due.is("run(" + n + ") amid", hall.run(n), BAD);
        }
        Due.is("STEPS", hall.state(1), 40_002);
        Due.is("nothing read", new EventHall().run(1), BAD);
    }

    /** "Up to n .. STEPS are done, TURN by TURN: how many were; fewer, if the CALENDAR is empty behind a TURN." */
    private static void runUpToItsSteps() {
        for (int n = 1; n <= 8; n++) {
            EventHall hall = started("process p() { say 1; hold 0; say 2; hold 0; say 3; say 4; }");
            Due.is("run(" + n + ")", hall.run(n), Math.min(n, 6));
            Due.is("STEPS", hall.state(1), Math.min(n, 6));
            Due.is("the rest", hall.run(20), Math.max(0, 6 - n));
        }
        EventHall hall = Due.hall("process p() { }");
        for (int i = 0; i < 300; i++) {
            hall.start(0, 0, 0, 0, 0);
        }
        Due.is("300 TURNS without a STEP", hall.run(1), 0);
        Due.is("TURNS", hall.state(2), 300);
    }

    /** "fewer, if the CALENDAR is empty behind a TURN" */
    private static void runOfAnEmptyCalendar() {
        EventHall none = Due.hall("number g;");
        Due.is("run(1) of none", none.run(1), 0);
        Due.is("run(20,000) of none", none.run(20_000), 0);
        EventHall hall = started("number g; process p() { await g; }");
        Due.is("up to where it waits", hall.run(9), 1);
        Due.is("it waits for ever", hall.run(9), 0);
        Due.is("TURNS", hall.state(2), 1);
    }

    /** "(If they end amid a TURN, the next run() goes on with it.)" */
    private static void runGoesOnWithATurn() {
        EventHall hall = Due.hall("process p() { say me; say me; say me; }");
        hall.start(0, 0, 0, 0, 0);
        hall.start(0, 0, 0, 0, 0);
        for (int step = 1; step <= 6; step++) {
            Due.is("run(1)", hall.run(1), 1);
            Due.is("amid", hall.state(10), step % 3 == 0 ? NONE : (step - 1) / 3);
            Due.is("TURNS that ended", hall.state(2), step / 3);
        }
        Due.isTrace(hall, 0, 0, 0, 0, 0, 0, 0, 1, 0, 1, 0, 1);
    }

    /** "within n (1 .. 20,000) STEPS"; "BAD: nothing read, another n." Of turn(). */
    private static void turnOfAnotherNumber() {
        EventHall hall = started("process p() { while 1 { } }");
        for (int n : OTHER_STEPS) {
            Due.is("turn(" + n + ")", hall.turn(n), BAD);
        }
        Due.is("no STEP", hall.state(1), 0);
        Due.is("not amid", hall.state(10), NONE);
        Due.is("turn(1)", hall.turn(1), -3);
        Due.is("one STEP", hall.state(1), 1);
        Due.is("turn(20,000)", hall.turn(20_000), -3);
        Due.is("20,001 STEPS", hall.state(1), 20_001);
        for (int n : OTHER_STEPS) {
            Due.is("turn(" + n + ") amid", hall.turn(n), BAD);
        }
        Due.is("nothing read", new EventHall().turn(1), BAD);
    }

    /** "One TURN is done (or gone on with), within n .. STEPS: the process; .. - 3 less the process, if the STEPS ended amid it." */
    private static void turnWithinItsSteps() {
        for (int n = 1; n <= 6; n++) {
            EventHall hall = started("process p() { say 1; say 2; say 3; hold 7; say 4; }");
            Due.is("turn(" + n + ")", hall.turn(n), n < 4 ? -3 : 0);
            Due.is("STEPS", hall.state(1), Math.min(n, 4));
            Due.is("gone on with", hall.turn(4), 0);
            Due.is("TIME", hall.state(0), n < 4 ? 0 : 7);
        }
        EventHall hall = started("process p() { say 1; say 2; say 3; say 4; }");
        Due.is("turn(1)", hall.turn(1), -3);
        Due.is("turn(2)", hall.turn(2), -3);
        Due.is("turn(1), the last", hall.turn(1), 0);
        Due.is("turn(1), none left", hall.turn(1), NONE);
    }

    /** "the process; .. - 3 less the process": process 0 and process 299. */
    private static void turnOfTheLastProcess() {
        EventHall hall = Due.hall("process p() { } process q() { say 1; say 2; }");
        for (int i = 0; i < 299; i++) {
            hall.start(0, 0, 0, 0, 0);
        }
        hall.start(1, 0, 0, 0, 0);
        Due.is("the first", hall.turn(1), 0);
        Due.is("the others", hall.run(1), 1);
        Due.is("amid", hall.state(10), 299);
        EventHall one = Due.hall("process p() { let k = 299; while k { start q(); k = k - 1; } } process q() { if me == 299 { say 1; say 2; } }");
        one.start(0, 0, 0, 0, 0);
        one.run(1 + 3 * 299 + 1 + 298);
        Due.is("within one STEP", one.turn(1), -302);
        Due.is("within two", one.turn(1), -302);
        Due.is("within three", one.turn(1), 299);
    }

    /** "NONE: the CALENDAR was empty" */
    private static void turnOfAnEmptyCalendar() {
        EventHall hall = Due.hall("process p() { }");
        Due.is("none started", hall.turn(1), NONE);
        Due.is("no TURN", hall.state(2), 0);
        hall.start(0, 0, 0, 0, 0);
        Due.is("one TURN", hall.turn(1), 0);
        Due.is("none left", hall.turn(20_000), NONE);
        Due.is("TURNS", hall.state(2), 1);
        EventHall amid = started("process p() { say 1; say 2; }");
        Due.is("amid", amid.turn(1), -3);
        Due.is("the CALENDAR is empty, but it is amid", amid.state(4), 0);
        Due.is("gone on with", amid.turn(1), 0);
    }

    /** "behind the end of a process's block it ends, by no STEP" */
    private static void behindTheEndOfABlock() {
        String[] blocks = {"", "say 1;", "if 1 { }", "if 0 { }", "if 1 { say 1; }", "if 0 { } else { say 1; }", "while 0 { say 1; }", "hold 0;", "await 1;"};
        int[] steps = {0, 1, 1, 1, 2, 2, 1, 1, 1};
        for (int i = 0; i < blocks.length; i++) {
            EventHall hall = started("process p() { " + blocks[i] + " }");
            Due.is("STEPS of " + blocks[i], hall.run(9), steps[i]);
            Due.is("ended", hall.process(0, 1), 5);
            Due.is("STEPS in all", hall.state(1), steps[i]);
            EventHall exact = started("process p() { " + blocks[i] + " }");
            exact.run(Math.max(1, steps[i]));
            Due.is("ended by no STEP: " + blocks[i], exact.process(0, 1), blocks[i].equals("hold 0;") ? 1 : 5);
        }
    }

    /** "Each statement that is begun is a STEP, each time again that the condition of a while is looked at, too" */
    private static void whileIsLookedAtAgain() {
        for (int times = 0; times <= 3; times++) {
            EventHall hall = Due.hall("process p(n) { while n { n = n - 1; } }");
            hall.start(0, times, 0, 0, 0);
            Due.is("a while " + times + " times", hall.run(99), 2 * times + 1);
        }
        EventHall empty = Due.hall("process p() { while 1 { } }");
        empty.start(0, 0, 0, 0, 0);
        Due.is("a while without statements", empty.run(77), 77);
        EventHall nested = Due.hall("process p(n) { while n { n = n - 1; while 0 { } } }");
        nested.start(0, 2, 0, 0, 0);
        Due.is("a while within another", nested.run(99), 7);
        EventHall chosen = Due.hall("process p(n) { while n { n = n - 1; if n { } else { } } }");
        chosen.start(0, 2, 0, 0, 0);
        Due.is("an if within a while", chosen.run(99), 7);
    }

    /** "the one with the least time, of these the first in line, is taken out, the TIME becomes its" */
    private static void firstInLine() {
        EventHall hall = Due.hall("process p(n) { hold n; say me; }");
        int[] spans = {1, 0, 2, 1, 0, 2, 1_000_000_000, 999_999_999};
        for (int span : spans) {
            hall.start(0, span, 0, 0, 0);
        }
        hall.run(100);
        Due.isTrace(hall, 0, 1, 0, 4, 1, 0, 1, 3, 2, 2, 2, 5, 999_999_999, 7, 1_000_000_000, 6);
        EventHall late = Due.hall("process p() { start q() 5; hold 5; say me; } process q() { say me; }");
        late.start(0, 0, 0, 0, 0);
        late.start(0, 0, 0, 0, 0);
        late.run(100);
        Due.isTrace(late, 5, 2, 5, 0, 5, 3, 5, 1);
    }

    /** "it goes on till it holds, waits, ends or goes WRONG: a TURN" */
    private static void turnsEndWhereTheyMust() {
        String[] going = {"seize r;", "free r;", "put s 1;", "get s 1;", "await 1;", "start q();", "wake 0;", "stop 1;", "say 1;", "let x = 1;", "if 1 { }"};
        for (String statement : going) {
            EventHall hall = started("resource r 2; store s 1 2; process p() { seize r; " + statement + " say 9; } process q() { say 1; hold 1; }");
            hall.start(1, 0, 0, 0, 0);
            Due.is("three STEPS with " + statement, hall.turn(99), 0);
            Due.is("it goes on behind " + statement, hall.process(0, 1), 5);
            Due.is("STEPS", hall.state(1), 3);
        }
        String[] ending = {"hold 0;", "seize r;", "put s 2;", "get s 2;", "await 0;", "end;", "stop 0;", "say 1 / 0;"};
        int[] ways = {1, 2, 3, 3, 4, 5, 5, 6};
        for (int i = 0; i < ending.length; i++) {
            EventHall hall = started("resource r 1; store s 1 2; process p() { seize r; " + ending[i] + " say 9; }");
            Due.is("the TURN ends with " + ending[i], hall.turn(99), 0);
            Due.is("how it is then", hall.process(0, 1), ways[i]);
            Due.is("STEPS", hall.state(1), 2);
            Due.is("TURNS", hall.state(2), 1);
        }
    }

    /** "BAD: another number; .." Of state(). */
    private static void stateOfAnotherNumber() {
        EventHall hall = started("process p() { }");
        for (int what : new int[] {-1, 13, 14, LEAST, GREATEST}) {
            Due.is("state(" + what + ")", hall.state(what), BAD);
            Due.is("state(" + what + ") of nothing read", new EventHall().state(what), BAD);
        }
        int[] want = {0, 0, 0, 1, 1, 0, 0, 0, 0, 1, NONE, 0, BAD};
        for (int what = 0; what < want.length; what++) {
            Due.is("state(" + what + ")", hall.state(what), want[what]);
        }
    }

    /** "nothing read (0 to 10)": 11 and 12 are told. */
    private static void stateOfNothingRead() {
        EventHall hall = new EventHall();
        Due.feed(hall, "number a, b; $");
        Due.is("load", hall.load(), 1);
        for (int what = 0; what <= 10; what++) {
            Due.is("state(" + what + ")", hall.state(what), BAD);
        }
        Due.is("state(11)", hall.state(11), 1);
        Due.is("state(12)", hall.state(12), 13);
    }

    /** "10 the process amid its TURN (NONE)", "3 processes that were started, 4 .., 5 .., 6 .., 7 ..": none, and all. */
    private static void stateOfTheFirstAndTheLast() {
        String[] blocks = {"hold 1;", "await 0;", "", "say 1 / 0;"};
        int[][] counts = {{300, 0, 0, 0}, {0, 300, 0, 0}, {0, 0, 300, 0}, {0, 0, 0, 300}};
        for (int i = 0; i < blocks.length; i++) {
            EventHall hall = Due.hall("process p() { " + blocks[i] + " }");
            for (int k = 0; k < 300; k++) {
                hall.start(0, 0, 0, 0, 0);
            }
            Due.is("all in the CALENDAR", hall.state(4), 300);
            hall.run(300);
            Due.is("started", hall.state(3), 300);
            for (int k = 0; k < 4; k++) {
                Due.is("state(" + (4 + k) + ") with " + blocks[i], hall.state(4 + k), counts[i][k]);
            }
            Due.is("TURNS", hall.state(2), 300);
        }
        EventHall hall = started("process p() { say 1; say 2; }");
        Due.is("none amid", hall.state(10), NONE);
        hall.run(1);
        Due.is("process 0 amid", hall.state(10), 0);
        hall.run(1);
        Due.is("none amid again", hall.state(10), NONE);
    }

    /** "1 STEPS in all (modulo 2 to the 30th)": 512 calls don't get so far, so the count is set near to it. */
    private static void stepsModulo2ToThe30th() {
        EventHall hall = started("process p() { while 1 { } }");
        setSteps(hall, (1 << 30) - 3);
        hall.run(1);
        Due.is("two below", hall.state(1), (1 << 30) - 2);
        hall.run(1);
        Due.is("one below", hall.state(1), (1 << 30) - 1);
        Due.is("run(1)", hall.run(1), 1);
        Due.is("2 to the 30th", hall.state(1), 0);
        hall.turn(5);
        Due.is("behind it", hall.state(1), 5);
    }

    private static void setSteps(EventHall hall, int steps) {
        try {
            Field inner = EventHall.class.getDeclaredField("hall");
            inner.setAccessible(true);
            Field count = inner.getType().getDeclaredField("steps");
            count.setAccessible(true);
            count.setInt(inner.get(hall), steps);
        } catch (ReflectiveOperationException e) {
            throw new IllegalStateException("where the STEPS are counted has changed", e);
        }
    }

    private static EventHall saying(int lines) {
        EventHall hall = Due.hall("process p(n) { let k = 0; while k < n { say k + 5; k = k + 1; hold 1; } }");
        hall.start(0, lines, 0, 0, 0);
        hall.run(20_000);
        return hall;
    }

    /** "8 lines of the TRACE (1,000 are kept, all are counted)" */
    private static void linesThatAreKept() {
        for (int lines : new int[] {0, 1, 999, 1000, 1001, 2001}) {
            EventHall hall = saying(lines);
            Due.is("lines", hall.state(8), lines);
            for (int k : new int[] {0, 1, 998, 999, 1000, 1001, 2000, 2001}) {
                boolean isKept = k < lines && k < 1000;
                Due.is("TIME of line " + k + " of " + lines, hall.trace(k, 0), isKept ? k : NO_VALUE);
                Due.is("value of line " + k + " of " + lines, hall.trace(k, 1), isKept ? k + 5 : NO_VALUE);
            }
        }
    }

    /** "BAD (here - 2,000,000,000): none such, not kept." Of trace(). */
    private static void traceOfNoneSuch() {
        EventHall hall = saying(2);
        for (int k : new int[] {-1, 2, LEAST, GREATEST}) {
            Due.is("trace(" + k + ", 0)", hall.trace(k, 0), NO_VALUE);
            Due.is("trace(" + k + ", 1)", hall.trace(k, 1), NO_VALUE);
        }
        for (int what : new int[] {-1, 2, LEAST, GREATEST}) {
            Due.is("trace(0, " + what + ")", hall.trace(0, what), NO_VALUE);
            Due.is("trace(1, " + what + ")", hall.trace(1, what), NO_VALUE);
        }
        Due.is("nothing read", new EventHall().trace(0, 0), NO_VALUE);
    }

    /** "say n: the TIME and n come to the TRACE": the utmost. */
    private static void traceOfTheUtmost() {
        EventHall hall = Due.hall("process p(a, b, c) { say a; say b; hold 1000 * 1000 * 1000; say c; }");
        hall.start(0, LEAST, GREATEST, NO_VALUE, 0);
        hall.run(9);
        Due.isTrace(hall, 0, LEAST, 0, GREATEST, 1_000_000_000, NO_VALUE);
    }
}
