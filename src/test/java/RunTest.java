/** Promises 7 and 8: run and turn, what is a step and what a turn. */
public final class RunTest {
    private RunTest() {
    }

    public static void main(String[] args) {
        refused();
        stepsOfStatements();
        waysThroughBlocks();
        stepsEndAmidATurn();
        theLastStatementEndsTheProcess();
        turnsWithoutSteps();
        runStopsBehindItsSteps();
        turnByTurn();
        longRuns();
        Due.close();
    }

    private static void refused() {
        EventHall hall = Due.hall("process p() { say 1; }");
        hall.start(0, 0, 0, 0, 0);
        int[] wrong = {0, -1, 20_001, Integer.MIN_VALUE, Integer.MAX_VALUE};
        for (int n : wrong) {
            Due.is("run(" + n + ")", hall.run(n), EventHall.BAD);
            Due.is("turn(" + n + ")", hall.turn(n), EventHall.BAD);
        }
        Due.is("no step was done", hall.state(1), 0);
        Due.is("run(20000)", hall.run(20_000), 1);
        Due.is("turn(20000)", hall.turn(20_000), EventHall.NONE);
        Due.is("run of the empty calendar", hall.run(1), 0);
    }

    private static int steps(String block) {
        EventHall hall = Due.hall("resource r 2; store s 1 5; number g; process p(a) { " + block + " } process q() { }");
        hall.start(0, 3, 0, 0, 0);
        int all = hall.run(20_000);
        Due.is("STEPS in all", hall.state(1), all);
        return all;
    }

    private static void stepsOfStatements() {
        Due.is("none", steps(""), 0);
        Due.is("let, assignments", steps("let b = 1; g = 2; a = 3;"), 3);
        Due.is("if", steps("if 1 { } if 0 { } else { }"), 2);
        Due.is("if and its block", steps("if 1 { say 1; } else { say 2; say 3; }"), 2);
        Due.is("if and its other block", steps("if 0 { say 1; } else { say 2; say 3; }"), 3);
        Due.is("while looked at once", steps("while 0 { say 1; }"), 1);
        Due.is("while looked at four times", steps("while a { a = a - 1; }"), 7);
        Due.is("while within while", steps("while a { a = a - 1; let b = 2; while b { b = b - 1; } }"), 25);
        Due.is("hold", steps("hold 1; hold 0;"), 2);
        Due.is("places", steps("seize r; free r; put s 1; get s 2;"), 4);
        Due.is("await", steps("await 1; await now == 0; await a;"), 3);
        Due.is("start, wake, stop, say, end", steps("start q(); wake 1; stop 1; say 1; end; say 2;"), 5);
        Due.is("WRONG is a step", steps("say 1 / 0; say 2;"), 1);
    }

    private static void waysThroughBlocks() {
        EventHall hall = Due.hall("process p() { if 0 { say 1; } say 2; if 1 { say 3; } say 4; if 0 { say 5; } else { say 6; } say 7;"
                + " if 1 { if 0 { say 8; } else { say 9; } } else { say 10; } let k = 2; while k { k = k - 1; if k { say 11; } } say 12;"
                + " while 0 { say 13; } while k < 2 { k = k + 1; while 1 == 2 { } if k == 1 { } else { say 14; end; } say 15; } say 16; }");
        hall.start(0, 0, 0, 0, 0);
        hall.run(100);
        Due.isTrace(hall, 0, 2, 0, 3, 0, 4, 0, 6, 0, 7, 0, 9, 0, 11, 0, 12, 0, 15, 0, 14);
    }

    private static void stepsEndAmidATurn() {
        EventHall hall = Due.hall("process p(a) { while a { a = a - 1; say a; } hold 2; say 9; }");
        hall.start(0, 2, 0, 0, 0);
        Due.is("run(2)", hall.run(2), 2);
        Due.is("amid", hall.state(10), 0);
        Due.isProcess(hall, 0, 7, EventHall.NONE, EventHall.NONE, 0, 0, EventHall.NONE);
        Due.is("no turn ended", hall.state(2), 0);
        Due.is("not in the calendar", hall.state(4), 0);
        Due.is("turn(1)", hall.turn(1), -3);
        Due.is("run(4)", hall.run(4), 4);
        Due.is("amid before hold", hall.state(10), 0);
        Due.is("turn(5) goes on with it", hall.turn(5), 0);
        Due.is("behind the turn", hall.state(10), EventHall.NONE);
        Due.isProcess(hall, 0, 1, 2, EventHall.NONE, 0, 0, 0);
        Due.is("the rest", hall.run(5), 1);
        Due.isTrace(hall, 0, 1, 0, 0, 2, 9);
        Due.is("STEPS", hall.state(1), 9);
        Due.is("TURNS", hall.state(2), 2);
    }

    private static void theLastStatementEndsTheProcess() {
        EventHall hall = Due.hall("process p() { say 1; if 1 { say 2; } else { } } process q() { while 0 { } }");
        hall.start(0, 0, 0, 0, 0);
        Due.is("turn(3) is enough", hall.turn(3), 0);
        Due.is("ended", hall.process(0, 1), 5);
        hall.start(1, 0, 0, 0, 0);
        Due.is("run(1)", hall.run(1), 1);
        Due.is("ended by no step", hall.state(6), 2);
        Due.is("nobody is amid", hall.state(10), EventHall.NONE);
        Due.is("turns", hall.state(2), 2);
    }

    private static void turnsWithoutSteps() {
        EventHall hall = Due.hall("process p() { } process q() { hold 3; }");
        hall.start(0, 0, 0, 0, 0);
        hall.start(1, 0, 0, 0, 0);
        Due.is("turn of an empty block", hall.turn(1), 0);
        Due.is("turn up to hold", hall.turn(1), 1);
        Due.is("turn behind hold", hall.turn(1), 1);
        Due.is("TIME", hall.state(0), 3);
        Due.is("STEPS", hall.state(1), 1);
        Due.is("TURNS", hall.state(2), 3);
        Due.is("calendar is empty", hall.turn(1), EventHall.NONE);
    }

    private static void runStopsBehindItsSteps() {
        EventHall hall = Due.hall("process p() { hold 3; }");
        hall.start(0, 0, 0, 0, 0);
        Due.is("run(1)", hall.run(1), 1);
        Due.is("the next turn is not begun", hall.state(0), 0);
        Due.is("it holds", hall.process(0, 1), 1);
        Due.is("a turn without steps", hall.run(1), 0);
        Due.is("TIME", hall.state(0), 3);
        Due.is("it ended", hall.process(0, 1), 5);
    }

    private static void turnByTurn() {
        EventHall hall = Due.hall("process p(n) { hold n; say n; hold 2; say n; }");
        hall.start(0, 3, 0, 0, 0);
        hall.start(0, 1, 0, 0, 0);
        hall.start(0, 3, 0, 0, 0);
        int[] want = {0, 1, 2, 1, 0, 2, 1, 0, 2, EventHall.NONE};
        for (int p : want) {
            Due.is("turn", hall.turn(9), p);
        }
        Due.isTrace(hall, 1, 1, 3, 3, 3, 3, 3, 1, 5, 3, 5, 3);
    }

    private static void longRuns() {
        EventHall hall = Due.hall("number g; process p() { while 1 { g = g + 1; } }");
        hall.start(0, 0, 0, 0, 0);
        for (int i = 1; i <= 20; i++) {
            Due.is("run(20000)", hall.run(20_000), 20_000);
            Due.is("STEPS", hall.state(1), 20_000 * i);
        }
        Due.is("number", hall.number(0), 200_000);
        Due.is("turn(20000)", hall.turn(20_000), -3);
    }
}
