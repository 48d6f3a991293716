/** Promise 9: state. */
public final class StateTest {
    private StateTest() {
    }

    public static void main(String[] args) {
        otherNumbers();
        countsOfProcesses();
        faultOfTheLastLoad();
        manyTraceLines();
        Due.close();
    }

    private static void otherNumbers() {
        EventHall hall = Due.hall("number a;");
        int[] wrong = {-1, 13, 14, 100, Integer.MIN_VALUE, Integer.MAX_VALUE};
        for (int what : wrong) {
            Due.is("state(" + what + ")", hall.state(what), EventHall.BAD);
        }
    }

    private static void isState(EventHall hall, int... want) {
        for (int what = 0; what < want.length; what++) {
            Due.is("state(" + what + ")", hall.state(what), want[what]);
        }
    }

    private static void countsOfProcesses() {
        EventHall hall = Due.hall("number open; resource r 1; store s 0 3;"
                + " process holder() { seize r; hold 10; say 1; }"
                + " process seizer() { seize r; hold 1; }"
                + " process getter() { get s 1; }"
                + " process waiter() { await open; }"
                + " process wrong() { hold 4; say 1 % 0; }"
                + " process opener() { hold 20; open = 1; put s 3; }");
        for (int d = 0; d < 6; d++) {
            hall.start(d, 0, 0, 0, 0);
        }
        isState(hall, 0, 0, 0, 6, 6, 0, 0, 0, 0, 1, EventHall.NONE, 0, EventHall.BAD);
        Due.is("seven steps", hall.run(7), 7);
        isState(hall, 0, 7, 6, 6, 3, 3, 0, 0, 0, 1, EventHall.NONE, 0, EventHall.BAD);
        Due.is("the wrong one", hall.turn(5), 4);
        isState(hall, 4, 8, 7, 6, 2, 3, 0, 1, 0, 1, EventHall.NONE, 0, EventHall.BAD);
        Due.is("the holder", hall.turn(5), 0);
        isState(hall, 10, 9, 8, 6, 2, 2, 1, 1, 1, 1, EventHall.NONE, 0, EventHall.BAD);
        Due.is("up to amid the opener", hall.run(2), 2);
        isState(hall, 20, 11, 10, 6, 0, 2, 2, 1, 1, 1, 5, 0, EventHall.BAD);
        Due.is("the rest", hall.run(20), 1);
        isState(hall, 20, 12, 13, 6, 0, 0, 5, 1, 1, 1, EventHall.NONE, 0, EventHall.BAD);
    }

    private static void faultOfTheLastLoad() {
        EventHall hall = new EventHall();
        Due.feed(hall, "number a; resource b 100;");
        Due.is("load", hall.load(), 5);
        Due.is("fault", hall.state(11), 5);
        Due.is("place", hall.state(12), 21);
        Due.is("TIME", hall.state(0), EventHall.BAD);
        hall.load();
        Due.is("no fault", hall.state(11), 0);
        Due.is("no place", hall.state(12), EventHall.BAD);
    }

    private static void manyTraceLines() {
        EventHall hall = Due.hall("process p(n) { while n { say n; n = n - 1; } }");
        hall.start(0, 1500, 0, 0, 0);
        hall.run(20_000);
        Due.is("all lines are counted", hall.state(8), 1500);
    }
}
