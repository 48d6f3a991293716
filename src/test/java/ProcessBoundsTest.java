/** The bounds of process(), and of how processes hold, await, end and go WRONG; each test bears the sentence of the document. */
public final class ProcessBoundsTest {
    private static final int NONE = EventHall.NONE, NO_VALUE = -2_000_000_000;
    private static final int LEAST = Integer.MIN_VALUE, GREATEST = Integer.MAX_VALUE;
    private static final int LAST_TIME = 1_000_000_000;

    private ProcessBoundsTest() {
    }

    public static void main(String[] args) {
        holdOfNoTime();
        holdUpToTheLastTime();
        holdOfLessThan0();
        startUpToTheLastTime();
        startOfLessThan0();
        startWithoutSpan();
        startOfA301st();
        stopOfNone();
        stopOfTheFirstAndTheLast();
        stopOfOneThatIsOver();
        stopWhereverItIs();
        wakeOfNone();
        wakeOfOneThatHolds();
        wakeOfOneThatDoesNotHold();
        awaitOfWhatIsNot0();
        awaitIsLookedAtBehindEachTurn();
        awaitByHowLongTheyWait();
        awaitThatGoesWrong();
        freeOfWhatItHasNot();
        unitsGoBackInOrder();
        unitsOfOneThatWaits();
        wrongIsTheProcessAlone();
        processOfNoneSuch();
        processOfNoSuchNumber();
        whenItGoesOn();
        whenItWasPutThere();
        forWhichItWaits();
        letsNotYetTold();
        Due.close();
    }

    /** A hall with processes of the first definition, one for each given value. */
    private static EventHall each(String text, int... values) {
        EventHall hall = Due.hall(text);
        for (int value : values) {
            hall.start(0, value, 0, 0, 0);
        }
        return hall;
    }

    /** How each of them went WRONG. */
    private static void isWrong(EventHall hall, int... want) {
        int count = 0;
        for (int p = 0; p < want.length; p++) {
            Due.is("how process " + p + " went WRONG", hall.process(p, 5), want[p]);
            Due.is("whether process " + p + " did", hall.process(p, 1) == 6 ? 1 : 0, want[p] == 0 ? 0 : 1);
            count += want[p] == 0 ? 0 : 1;
        }
        Due.is("those that went WRONG", hall.state(7), count);
    }

    /** "hold n: it goes on at the TIME and n.": n is 0 */
    private static void holdOfNoTime() {
        EventHall hall = each("process p(n) { say me; hold n; say 10 + me; }", 0, 0, 1);
        hall.turn(9);
        Due.isProcess(hall, 0, 1, 0, NONE, 0, 0, 0);
        hall.run(100);
        Due.isTrace(hall, 0, 0, 0, 1, 0, 2, 0, 10, 0, 11, 1, 12);
        Due.is("TIME", hall.state(0), 1);
    }

    /** "2 a time above 1,000,000,000": of hold */
    private static void holdUpToTheLastTime() {
        EventHall atFirst = each("process p(n) { hold n; say 1; }", LAST_TIME - 1, LAST_TIME, LAST_TIME + 1, GREATEST);
        atFirst.run(100);
        isWrong(atFirst, 0, 0, 2, 2);
        Due.isTrace(atFirst, LAST_TIME - 1, 1, LAST_TIME, 1);
        EventHall later = each("process p(n) { hold 10; hold n; say 1; }", LAST_TIME - 11, LAST_TIME - 10, LAST_TIME - 9, LAST_TIME, GREATEST);
        later.run(100);
        isWrong(later, 0, 0, 2, 2, 2);
        Due.isTrace(later, LAST_TIME - 1, 1, LAST_TIME, 1);
        EventHall atLast = each("process p(n) { hold 500000000; hold 500000000; hold n; say 1; }", 0, 1, GREATEST);
        atLast.run(100);
        isWrong(atLast, 0, 2, 2);
        Due.isTrace(atLast, LAST_TIME, 1);
        Due.is("TIME", atLast.state(0), LAST_TIME);
    }

    /** "or hold, start by less than 0": of hold */
    private static void holdOfLessThan0() {
        EventHall hall = each("process p(n) { hold 5; hold n; say 1; }", 0, -1, -5, LEAST, LEAST + 5);
        hall.run(100);
        isWrong(hall, 0, 2, 2, 2, 2);
        Due.isTrace(hall, 5, 1);
        Due.is("TIME", hall.state(0), 5);
    }

    private static final String STARTS = "process p(n) { hold 10; start q() n; say 1; } process q() { say 2; }";

    /** "2 a time above 1,000,000,000": of start */
    private static void startUpToTheLastTime() {
        EventHall hall = each(STARTS, LAST_TIME - 11, LAST_TIME - 10, LAST_TIME - 9, LAST_TIME, GREATEST);
        hall.run(100);
        isWrong(hall, 0, 0, 2, 2, 2, 0, 0);
        Due.is("two were started", hall.state(3), 7);
        Due.isTrace(hall, 10, 1, 10, 1, LAST_TIME - 1, 2, LAST_TIME, 2);
    }

    /** "or hold, start by less than 0": of start */
    private static void startOfLessThan0() {
        EventHall hall = each(STARTS, 0, -1, -10, LEAST);
        hall.run(100);
        isWrong(hall, 0, 2, 2, 2, 0);
        Due.is("one was started", hall.state(3), 5);
        Due.isTrace(hall, 10, 1, 10, 2);
    }

    /** "start: a process, the next number, READY at the TIME and n (0 without)." */
    private static void startWithoutSpan() {
        EventHall hall = each("process p(n) { hold 10; start q(n); start q(n) 0; start q(n) 3; say 1; } process q(n) { say n; }", 8);
        hall.run(4);
        Due.isProcess(hall, 1, 0, 10, NONE, 0, 0, 10);
        Due.isProcess(hall, 2, 0, 10, NONE, 0, 0, 10);
        hall.run(1);
        Due.isProcess(hall, 3, 0, 13, NONE, 0, 0, 10);
        hall.run(100);
        Due.isTrace(hall, 10, 1, 10, 8, 10, 8, 13, 8);
    }

    /** "5 a 301st process" */
    private static void startOfA301st() {
        String text = "process p(n) { while n { start q(); n = n - 1; } say 1; } process q() { }";
        EventHall full = each(text, 299);
        full.run(1000);
        isWrong(full, 0);
        Due.is("300 were started", full.state(3), 300);
        Due.is("the last", full.process(299, 1), 5);
        EventHall more = each(text, 300);
        more.run(1000);
        isWrong(more, 5);
        Due.is("no more were started", more.state(3), 300);
        Due.is("none behind the last", more.process(300, 0), NO_VALUE);
        Due.is("nothing said", more.state(8), 0);
        EventHall ended = each("process p(n) { while n { start q(); hold 1; n = n - 1; } say 1; } process q() { }", 300);
        ended.run(2000);
        Due.is("all others had ended before", ended.state(6), 299);
        isWrong(ended, 5);
    }

    private static final int[] NO_PROCESSES = {-1, 7, 299, 300, LEAST, GREATEST};

    /** "7 a process that is none (stop, wake: never started)": stop */
    private static void stopOfNone() {
        EventHall hall = each("process p(n) { stop n; say 1; }", NO_PROCESSES);
        hall.start(0, 6, 0, 0, 0);
        hall.run(100);
        isWrong(hall, 7, 7, 7, 7, 7, 7, 0);
        Due.is("nothing said", hall.state(8), 0);
    }

    /** "stop p: process p ends (itself, too)." */
    private static void stopOfTheFirstAndTheLast() {
        EventHall hall = each("process p(n) { hold 1; stop n; say me; }", 1, 0, 2, 0, 5, 5);
        hall.run(100);
        isWrong(hall, 0, 0, 0, 0, 0, 0);
        Due.isTrace(hall, 1, 0, 1, 3, 1, 4);
        Due.is("all ended", hall.state(6), 6);
        EventHall full = Due.hall("process p() { hold 1; } process q(n) { stop n; say 1; }");
        for (int i = 0; i < 298; i++) {
            full.start(0, 0, 0, 0, 0);
        }
        full.start(1, 299, 0, 0, 0);
        full.start(1, 300, 0, 0, 0);
        full.run(1000);
        Due.is("the last was stopped", full.process(299, 1), 5);
        Due.is("none went WRONG", full.state(7), 0);
    }

    /** "stop p: process p ends": one that ended or went WRONG stays as it is. */
    private static void stopOfOneThatIsOver() {
        EventHall hall = each("process p(n) { if n == 0 { end; } if n == 1 { say 1 / 0; } hold 1; stop n - 2; stop n - 2; say me; }", 0, 1, 2, 3);
        hall.run(100);
        isWrong(hall, 0, 1, 0, 0);
        Due.isTrace(hall, 1, 2, 1, 3);
        Due.is("ended", hall.state(6), 3);
    }

    /** "When a process ends or goes WRONG, it waits nowhere": stopped in the calendar, in each line, and among those that await. */
    private static void stopWhereverItIs() {
        String text = "resource r 1; store s 1 2; number g; process all(n) { if n == 0 { seize r; hold 9; } if n == 1 { seize r; } if n == 2 { get s 2; }"
                + " if n == 3 { put s 2; } if n == 4 { await g; } if n == 5 { hold 9; } say 90 + n; }"
                + " process x(n) { hold 1; stop n; g = 1; put s 1; say 1; }";
        for (int n = 1; n <= 5; n++) {
            EventHall hall = each(text, 0, 1, 2, 3, 4, 5);
            hall.start(1, n, 0, 0, 0);
            for (int turns = 0; turns < 7; turns++) {
                hall.turn(9);
            }
            Due.is("those in the CALENDAR before", hall.state(4), 3);
            Due.is("those that wait before", hall.state(5), 4);
            hall.run(1);
            Due.is("amid the stopping one", hall.state(10), 6);
            Due.isProcess(hall, n, 5, NONE, NONE, 0, 0, NONE);
            Due.is("those in the CALENDAR", hall.state(4), n == 5 ? 1 : 2);
            Due.is("those that wait", hall.state(5), n == 5 ? 4 : 3);
            hall.run(100);
            Due.is("it goes on no more", hall.process(n, 1), 5);
        }
    }

    /** "7 a process that is none (stop, wake: never started)": wake */
    private static void wakeOfNone() {
        EventHall hall = each("process p(n) { wake n; say 1; }", NO_PROCESSES);
        hall.start(0, 6, 0, 0, 0);
        hall.start(0, 0, 0, 0, 0);
        hall.run(100);
        isWrong(hall, 7, 0, 7, 7, 7, 7, 0, 0);
        Due.is("three said", hall.state(8), 3);
    }

    /** "wake p: p, if it holds, is READY at the TIME." */
    private static void wakeOfOneThatHolds() {
        EventHall hall = each("process p(n) { hold n; say me; } process w(n) { hold 2; wake n; say 50; hold 1; say 51; }", 1_000_000_000, 5, 2);
        hall.start(1, 0, 0, 0, 0);
        hall.start(1, 1, 0, 0, 0);
        hall.run(5);
        Due.isProcess(hall, 0, 1, 1_000_000_000, NONE, 0, 0, 0);
        Due.is("process 2, and one wake", hall.run(2), 2);
        Due.isProcess(hall, 0, 0, 2, NONE, 0, 0, 2);
        Due.is("as many in the CALENDAR", hall.state(4), 3);
        hall.run(100);
        Due.isTrace(hall, 2, 2, 2, 50, 2, 50, 2, 0, 2, 1, 3, 51, 3, 51);
    }

    /** "wake p: p, if it holds, ..": one that doesn't stays as it is. */
    private static void wakeOfOneThatDoesNotHold() {
        EventHall hall = Due.hall("resource r 1; store s 0 1; number g; process w() { seize r; start l() 7; start e(); start x(); hold 1;"
                + " wake 0; wake 1; wake 2; wake 3; wake 4; wake 5; wake 6; say 1; await 0; }"
                + " process l() { say 7; } process e() { } process x() { say 1 / 0; }"
                + " process z() { seize r; } process g1() { get s 1; } process a() { await g; }");
        int[] starts = {0, 4, 5, 6};
        for (int d : starts) {
            hall.start(d, 0, 0, 0, 0);
        }
        hall.run(5 + 3 + 1);
        Due.is("TIME", hall.state(0), 0);
        Due.is("seven wakes, one say", hall.run(8), 8);
        Due.is("TIME", hall.state(0), 1);
        Due.isProcess(hall, 0, 7, NONE, NONE, 1, 0, NONE);
        Due.isProcess(hall, 1, 2, NONE, 0, 0, 0, 0);
        Due.isProcess(hall, 2, 3, NONE, 1, 0, 0, 0);
        Due.isProcess(hall, 3, 4, NONE, NONE, 0, 0, 0);
        Due.isProcess(hall, 4, 0, 7, NONE, 0, 0, 0);
        Due.isProcess(hall, 5, 5, NONE, NONE, 0, 0, NONE);
        Due.isProcess(hall, 6, 6, NONE, NONE, 0, 1, NONE);
    }

    /** "await c: if c is not 0 it goes on, else it waits" */
    private static void awaitOfWhatIsNot0() {
        EventHall hall = each("process p(n) { await n; say n; }", 0, 1, -1, LEAST, GREATEST);
        hall.run(100);
        Due.isTrace(hall, 0, 1, 0, -1, 0, LEAST, 0, GREATEST);
        Due.isProcess(hall, 0, 4, NONE, NONE, 0, 0, 0);
        Due.is("one waits", hall.state(5), 1);
    }

    /** "behind each TURN all that await are looked at ..; those whose c is not 0 are READY" */
    private static void awaitIsLookedAtBehindEachTurn() {
        EventHall hall = Due.hall("number g; process a() { await g; say now; } process b() { hold 1; g = 1; g = 0; hold 1; g = -1; say 7; hold 0; g = 0; say 8; }");
        hall.start(0, 0, 0, 0, 0);
        hall.start(1, 0, 0, 0, 0);
        hall.run(5);
        Due.is("TURNS", hall.state(2), 3);
        Due.isProcess(hall, 0, 4, NONE, NONE, 0, 0, 0);
        hall.run(1);
        Due.is("amid the TURN it waits still", hall.process(0, 1), 4);
        hall.run(2);
        Due.isProcess(hall, 0, 0, 2, NONE, 0, 0, 2);
        hall.run(100);
        Due.isTrace(hall, 2, 7, 2, 8, 2, 2);
        EventHall outside = Due.hall("process a() { await now > 0; say 1; } process b() { }");
        outside.start(0, 0, 0, 0, 0);
        outside.run(9);
        outside.start(1, 0, 0, 0, 0);
        Due.is("no TURN, nothing looked at", outside.process(0, 1), 4);
    }

    /** "all that await are looked at, by how long they wait" */
    private static void awaitByHowLongTheyWait() {
        EventHall hall = each("number g; process a(n) { hold n; await g; say me; } process b() { hold 9; g = 1; }", 3, 1, 2, 1);
        hall.start(1, 0, 0, 0, 0);
        hall.run(100);
        Due.isTrace(hall, 9, 1, 9, 3, 9, 2, 9, 0);
    }

    /** "(c goes WRONG: so does it.)" */
    private static void awaitThatGoesWrong() {
        EventHall hall = each("number g; resource r 1; process a(n) { if n == 2 { seize r; } await 1 / (g - n) && 0; say 1; }"
                + " process s() { seize r; say 2; } process b() { hold 1; g = 1; hold 1; g = 2; hold 1; }", 2, 0, 1, 3);
        hall.start(1, 0, 0, 0, 0);
        hall.start(2, 0, 0, 0, 0);
        hall.run(9);
        Due.is("at once", hall.process(1, 5), 1);
        hall.run(100);
        isWrong(hall, 1, 1, 1, 0, 0, 0);
        Due.isTrace(hall, 2, 2);
        Due.is("one awaits still", hall.process(3, 1), 4);
        Due.is("it alone waits", hall.state(5), 1);
    }

    /** "3 free of what it has not" */
    private static void freeOfWhatItHasNot() {
        for (int seized = 0; seized <= 3; seized++) {
            for (int freed = 0; freed <= 4; freed++) {
                EventHall hall = Due.hall("resource t 1; resource r 3; process o() { seize t; hold 5; } process p(a, b) { while a { seize r; a = a - 1; }"
                        + " while b { free r; b = b - 1; } hold 1; }");
                hall.start(0, 0, 0, 0, 0);
                hall.start(1, seized, freed, 0, 0);
                hall.turn(9);
                hall.turn(99);
                Due.is(seized + " seized, " + freed + " freed", hall.process(1, 5), freed > seized ? 3 : 0);
                Due.is("units that it has", hall.process(1, 4), freed > seized ? 0 : seized - freed);
                Due.is("units that are free", hall.place(1, 0), freed > seized ? 3 : 3 - seized + freed);
            }
        }
        EventHall other = each("resource r 2; resource t 1; process p(n) { seize t; hold 5; } process q() { seize r; free t; say 1; }", 0);
        other.start(1, 0, 0, 0, 0);
        other.turn(9);
        other.turn(9);
        Due.is("what another has", other.process(1, 5), 3);
        Due.is("the other has it still", other.process(0, 4), 1);
    }

    /** "all units that it has go back, one by one, by resources in order" */
    private static void unitsGoBackInOrder() {
        for (String last : new String[] {"", "end;", "stop me;", "say 1 / 0;"}) {
            EventHall hall = Due.hall("resource a 1; resource b 2; resource c 1; process p() { seize c; seize b; seize a; seize b; hold 1; " + last + " }"
                    + " process x() { seize a; say 1; } process y() { seize b; say 2; hold 1; } process z() { seize c; say 3; }");
            for (int d : new int[] {0, 3, 2, 2, 2, 1}) {
                hall.start(d, 0, 0, 0, 0);
            }
            hall.run(10);
            Due.is("units that it has", hall.process(0, 4), 4);
            hall.turn(9);
            Due.is("it has none", hall.process(0, 4), 0);
            Due.is("one waits still", hall.state(5), 1);
            hall.run(100);
            Due.isTrace(hall, 1, 1, 1, 2, 1, 2, 1, 3, 2, 2);
            Due.is("all are free", hall.place(0, 0) * 100 + hall.place(1, 0) * 10 + hall.place(2, 0), 121);
        }
    }

    /** "it waits nowhere, all units that it has go back": who waits for what it has itself does not get it. */
    private static void unitsOfOneThatWaits() {
        EventHall hall = Due.hall("resource r 1; process p() { seize r; seize r; say 1; } process q() { seize r; say 2; hold 5; } process x() { hold 3; stop 0; say 3; }");
        for (int d = 0; d < 3; d++) {
            hall.start(d, 0, 0, 0, 0);
        }
        hall.run(4);
        Due.isProcess(hall, 0, 2, NONE, 0, 1, 0, 0);
        Due.is("two wait", hall.place(0, 1), 2);
        hall.run(1);
        Due.isProcess(hall, 0, 5, NONE, NONE, 0, 0, NONE);
        Due.isProcess(hall, 1, 0, 3, NONE, 1, 0, 3);
        Due.is("none waits", hall.place(0, 1), 0);
        Due.is("served", hall.place(0, 3), 2);
        hall.run(100);
        Due.isTrace(hall, 3, 3, 3, 2);
        Due.is("r is free", hall.place(0, 0), 1);
    }

    /** "WRONG (the process alone, numbered so)": each number, and the others go on. */
    private static void wrongIsTheProcessAlone() {
        String[] blocks = {"say 1 / 0;", "hold -1;", "free r;", "put s 0;", "while 1 { start q(); }", "say draw(0);", "wake 301;"};
        for (int number = 1; number <= 7; number++) {
            EventHall hall = Due.hall("resource r 1; store s 0 1; process p() { " + blocks[number - 1] + " say 1; } process q() { } process o() { hold 1; say 2; }");
            hall.start(2, 0, 0, 0, 0);
            hall.start(0, 0, 0, 0, 0);
            hall.start(2, 0, 0, 0, 0);
            hall.run(5000);
            isWrong(hall, 0, number, 0);
            Due.isProcess(hall, 1, 6, NONE, NONE, 0, number, NONE);
            Due.isTrace(hall, 1, 2, 1, 2);
        }
    }

    /** "BAD (here - 2,000,000,000): none such." Of process(): p */
    private static void processOfNoneSuch() {
        EventHall hall = Due.hall("process p(a) { }");
        for (int count = 0; count < 3; count++) {
            for (int what : new int[] {0, 1, 2, 3, 4, 5, 6, 10}) {
                for (int p : new int[] {-1, count, count + 1, 299, 300, LEAST, GREATEST}) {
                    Due.is("process(" + p + ", " + what + ")", hall.process(p, what), NO_VALUE);
                }
            }
            hall.start(0, 7, 0, 0, 0);
            Due.is("the last one", hall.process(count, 10), 7);
        }
    }

    /** "BAD (here - 2,000,000,000): none such." Of process(): what, with none to eight parameters and lets. */
    private static void processOfNoSuchNumber() {
        for (int variables = 0; variables <= 8; variables++) {
            String told = variables < 2 ? "" : "a1, a2";
            EventHall hall = Due.hall("process p(" + told + ") { " + Texts.numbered("let ", "a", variables < 2 ? 1 : 3, variables, " = 5; ") + "}");
            hall.start(0, 5, 5, 0, 0);
            hall.run(9);
            for (int what : new int[] {-1, 7, 8, 9, 18, LEAST, LEAST + 9, LEAST + 10, LEAST + 17, GREATEST}) {
                Due.is("process(0, " + what + ")", hall.process(0, what), NO_VALUE);
            }
            for (int i = 0; i <= 8; i++) {
                Due.is("variable " + i + " of " + variables, hall.process(0, 10 + i), i < variables ? 5 : NO_VALUE);
            }
            for (int what = 0; what <= 6; what++) {
                Due.isTrue("process(0, " + what + ")", hall.process(0, what) != NO_VALUE);
            }
        }
    }

    /** "2 when it goes on (READY, HOLDS; NONE)" */
    private static void whenItGoesOn() {
        EventHall hall = each("process p(n) { hold n; say 1; say 2; }", 0, 1_000_000_000);
        Due.is("READY", hall.process(1, 2), 0);
        hall.run(2);
        Due.is("HOLDS", hall.process(0, 2), 0);
        Due.is("HOLDS up to the last TIME", hall.process(1, 2), 1_000_000_000);
        hall.run(1);
        Due.is("amid its TURN", hall.process(0, 2), NONE);
        hall.run(1);
        Due.is("ended", hall.process(0, 2), NONE);
        hall.run(9);
        Due.is("ended at the last TIME", hall.process(1, 2), NONE);
    }

    /** "6 when it was put where it is now (NONE: 5 to 7)" */
    private static void whenItWasPutThere() {
        EventHall hall = Due.hall("resource r 1; store s 0 1; number g;"
                + " process h() { seize r; hold 3; hold 4; } process w() { hold 1; seize r; say 1; } process t() { hold 2; get s 1; say 1; }"
                + " process a() { hold 3; await g; say 1; } process o() { hold 5; g = 1; put s 1; say 1; }");
        for (int d = 0; d < 5; d++) {
            hall.start(d, 0, 0, 0, 0);
            Due.is("READY", hall.process(d, 6), 0);
        }
        hall.run(6);
        Due.is("HOLDS", hall.process(0, 6), 0);
        hall.run(4);
        int[] since = {3, 1, 2, 3, 0};
        for (int p = 0; p < 5; p++) {
            Due.is("how it is", hall.process(p, 1), new int[] {1, 2, 3, 4, 1}[p]);
            Due.is("since when", hall.process(p, 6), since[p]);
        }
        hall.run(2);
        Due.is("READY, served", hall.process(2, 6), 5);
        Due.is("awaits still", hall.process(3, 6), 3);
        Due.is("amid its TURN", hall.process(4, 6), NONE);
        hall.run(1);
        Due.is("READY, awaited", hall.process(3, 6), 5);
        Due.is("ended", hall.process(4, 6), NONE);
        hall.run(100);
        for (int p = 0; p < 5; p++) {
            Due.is("ended", hall.process(p, 6), NONE);
        }
        EventHall wrong = each("process p(n) { hold 1; say 1 / n; }", 0);
        wrong.run(9);
        Due.is("WRONG", wrong.process(0, 6), NONE);
    }

    /** "3 for which resource or store it waits (resources first; NONE)": the first and the last of each. */
    private static void forWhichItWaits() {
        EventHall hall = Due.hall(Texts.numbered("store ", "s", 1, 6, " 0 1; ") + Texts.numbered("resource ", "r", 1, 8, " 1; ")
                + "process p(n) { if n == 0 { seize r1; seize r1; } if n == 7 { seize r8; seize r8; } if n == 8 { get s1 1; } if n == 13 { put s6 1; put s6 1; } await 0; }");
        int[] all = {0, 7, 8, 13, 14};
        for (int n : all) {
            hall.start(0, n, 0, 0, 0);
        }
        hall.run(1000);
        for (int p = 0; p < 4; p++) {
            Due.is("process(" + p + ", 3)", hall.process(p, 3), all[p]);
            Due.is("those that wait there", hall.place(all[p], 10), p);
        }
        Due.is("who awaits", hall.process(4, 3), NONE);
    }

    /** "10 and on: its parameters and lets (0 in those not yet told)" */
    private static void letsNotYetTold() {
        EventHall hall = Due.hall("process p(a) { say 0; let b = 5; if a { let c = 6; } else { let d = 7; } let e = 8; }");
        hall.start(0, 0, 0, 0, 0);
        int[][] rows = {{0, 0, 0, 0, 0}, {0, 5, 0, 0, 0}, {0, 5, 0, 0, 0}, {0, 5, 0, 7, 0}, {0, 5, 0, 7, 8}};
        for (int[] row : rows) {
            hall.run(1);
            for (int i = 0; i < row.length; i++) {
                Due.is("variable " + i, hall.process(0, 10 + i), row[i]);
            }
        }
    }
}
