/** Promises 12 and 13: place and sum; resources, stores and their lines. */
public final class PlaceTest {
    private static final int NO = EventHall.NONE;

    private PlaceTest() {
    }

    public static void main(String[] args) {
        noneSuch();
        resourcesComeFirst();
        priorities();
        unitsOfAResource();
        storeOfGettersAndPutters();
        servedInItsOwnStatement();
        stoppedInAStoreLine();
        mostThatWaited();
        sumsOfAResource();
        sumsOfAStore();
        longSums();
        Due.close();
    }

    private static void isPlace(EventHall hall, int r, int... want) {
        for (int what = 0; what < want.length; what++) {
            Due.is("place(" + r + ", " + what + ")", hall.place(r, what), want[what]);
        }
    }

    private static void isLine(EventHall hall, int r, int... want) {
        for (int k = 0; k < want.length; k++) {
            Due.is("place(" + r + ", " + (10 + k) + ")", hall.place(r, 10 + k), want[k]);
        }
        Due.is("behind the line", hall.place(r, 10 + want.length), NO);
    }

    private static void isSum(EventHall hall, int r, long... want) {
        for (int what = 0; what < want.length; what++) {
            Due.is("sum(" + r + ", " + what + ")", hall.sum(r, what), want[what]);
        }
    }

    private static void noneSuch() {
        EventHall hall = Due.hall("resource r 1; store s 1 2;");
        int[] wrong = {-1, 2, 8, 14, Integer.MIN_VALUE, Integer.MAX_VALUE};
        for (int r : wrong) {
            Due.is("place(" + r + ", 0)", hall.place(r, 0), -2);
            Due.is("sum(" + r + ", 0)", hall.sum(r, 0), -1);
        }
        int[] wrongWhat = {-1, 6, 7, 8, 9, 10, 11, 310, Integer.MIN_VALUE, Integer.MAX_VALUE};
        for (int what : wrongWhat) {
            Due.is("place(0, " + what + ")", hall.place(0, what), -2);
            Due.is("place(1, " + what + ")", hall.place(1, what), -2);
        }
        int[] wrongSum = {-1, 3, 10, Integer.MIN_VALUE, Integer.MAX_VALUE};
        for (int what : wrongSum) {
            Due.is("sum(0, " + what + ")", hall.sum(0, what), -1);
        }
    }

    private static void resourcesComeFirst() {
        EventHall hall = Due.hall("store s 1 20; resource a 3; store t 4 40; resource b 5;"
                + " process p() { seize b; put t 2; get s 1; get s 1; }");
        int[] there = {3, 5, 1, 4};
        int[] room = {3, 5, 20, 40};
        for (int r = 0; r < 4; r++) {
            isPlace(hall, r, there[r], 0, room[r], 0, 0, 0);
        }
        hall.start(0, 0, 0, 0, 0);
        hall.run(9);
        isPlace(hall, 1, 4, 0, 5, 1, 0, 0);
        isPlace(hall, 3, 6, 0, 40, 1, 0, 0);
        isPlace(hall, 2, 0, 1, 20, 1, 0, 1);
        Due.is("waits for s", hall.process(0, 3), 2);
    }

    private static void priorities() {
        EventHall hall = Due.hall("resource r 1; process p(n) { seize r n; say n; hold 2; free r; } process q() { seize r; say 0; hold 1; }");
        int[] numbers = {9, 5, 1, 5, -3, 1, Integer.MAX_VALUE, Integer.MIN_VALUE};
        for (int n : numbers) {
            hall.start(0, n, 0, 0, 0);
        }
        hall.start(1, 0, 0, 0, 0);
        hall.run(11);
        isLine(hall, 0, 7, 4, 8, 2, 5, 1, 3, 6);
        isPlace(hall, 0, 0, 8, 1, 1, 0, 8);
        Due.is("queue of the line", hall.place(0, 1), 8);
        hall.run(100);
        Due.isTrace(hall, 0, 9, 2, Integer.MIN_VALUE, 4, -3, 6, 0, 7, 1, 9, 1, 11, 5, 13, 5, 15, Integer.MAX_VALUE);
        isPlace(hall, 0, 1, 0, 1, 9, 8, 8);
    }

    private static void unitsOfAResource() {
        EventHall hall = Due.hall("resource r 3; process p() { seize r; seize r; hold 2; free r; hold 2; } process q() { seize r; seize r; hold 1; say now; }");
        hall.start(0, 0, 0, 0, 0);
        hall.start(1, 0, 0, 0, 0);
        hall.run(5);
        isPlace(hall, 0, 0, 1, 3, 3, 0, 1);
        Due.is("units of 0", hall.process(0, 4), 2);
        Due.is("units of 1", hall.process(1, 4), 1);
        hall.run(2);
        Due.is("its second unit", hall.process(1, 4), 2);
        isPlace(hall, 0, 0, 0, 3, 4, 1, 1);
        hall.run(100);
        isPlace(hall, 0, 3, 0, 3, 4, 1, 1);
        Due.isTrace(hall, 3, 3);
    }

    private static void storeOfGettersAndPutters() {
        EventHall hall = Due.hall("store s 0 10; process g(n) { get s n; say n; } process p(n) { put s n; say -n; }");
        hall.start(0, 7, 0, 0, 0);
        hall.start(0, 2, 0, 0, 0);
        hall.start(1, 4, 0, 0, 0);
        hall.run(3);
        isPlace(hall, 0, 4, 2, 10, 1, 0, 2);
        isLine(hall, 0, 0, 1);
        hall.run(9);
        hall.start(1, 8, 0, 0, 0);
        hall.start(1, 1, 0, 0, 0);
        hall.run(2);
        isPlace(hall, 0, 4, 4, 10, 1, 0, 4);
        isLine(hall, 0, 0, 1, 3, 4);
        Due.isProcess(hall, 3, 3, NO, 0, 0, 0, 0);
        hall.start(0, 4, 0, 0, 0);
        hall.run(1);
        isLine(hall, 0, 0, 1, 5, 3, 4);
        isPlace(hall, 0, 4, 5, 10, 1, 0, 5);
        Due.isTrace(hall, 0, -4);
    }

    private static void servedInItsOwnStatement() {
        EventHall hall = Due.hall("store s 4 6; process g(n) { get s n; say n; } process p(n) { put s n; say -n; }");
        hall.start(0, 5, 0, 0, 0);
        hall.start(1, 2, 0, 0, 0);
        Due.is("5 are not there", hall.turn(9), 0);
        Due.is("a put lets it be served", hall.run(1), 1);
        isPlace(hall, 0, 1, 0, 6, 2, 1, 1);
        Due.is("the putter goes on", hall.state(10), 1);
        Due.isProcess(hall, 0, 0, 0, NO, 0, 0, 0);
        hall.run(9);
        Due.isTrace(hall, 0, -2, 0, 5);
        hall.start(1, 6, 0, 0, 0);
        hall.start(1, 3, 0, 0, 0);
        hall.start(0, 1, 0, 0, 0);
        hall.run(3);
        isPlace(hall, 0, 6, 1, 6, 4, 2, 2);
        Due.is("the getter goes on", hall.state(10), 4);
        isLine(hall, 0, 3);
        Due.isProcess(hall, 2, 0, 0, NO, 0, 0, 0);
    }

    private static void stoppedInAStoreLine() {
        EventHall hall = Due.hall("store s 3 6; process g(n) { get s n; say n; } process p(n) { put s n; say -n; }"
                + " process x(n) { hold 4; stop n; say 0; }");
        hall.start(0, 5, 0, 0, 0);
        hall.start(0, 2, 0, 0, 0);
        hall.start(1, 5, 0, 0, 0);
        hall.start(1, 4, 0, 0, 0);
        hall.start(2, 0, 0, 0, 0);
        hall.run(5);
        isLine(hall, 0, 0, 1, 2, 3);
        hall.run(100);
        isPlace(hall, 0, 6, 1, 6, 2, 2, 4);
        Due.isTrace(hall, 4, 0, 4, 2, 4, -5);
        isSum(hall, 0, 12, 16, 8);
    }

    private static void mostThatWaited() {
        EventHall hall = Due.hall("resource r 1; store s 0 1; process p() { seize r; hold 1; } process q() { put s 1; get s 1; }");
        for (int i = 0; i < 4; i++) {
            hall.start(0, 0, 0, 0, 0);
        }
        hall.start(1, 0, 0, 0, 0);
        hall.run(4);
        Due.is("two wait", hall.place(0, 5), 2);
        hall.run(100);
        Due.is("three waited", hall.place(0, 5), 3);
        Due.is("none waits", hall.place(0, 1), 0);
        Due.is("none waited for the store", hall.place(1, 5), 0);
    }

    private static void sumsOfAResource() {
        EventHall hall = Due.hall("resource r 2; process p(n) { hold n; seize r; hold 10; }");
        hall.start(0, 0, 0, 0, 0);
        hall.start(0, 3, 0, 0, 0);
        hall.start(0, 4, 0, 0, 0);
        hall.start(0, 5, 0, 0, 0);
        isSum(hall, 0, 0, 0, 0);
        hall.run(10);
        Due.is("TIME", hall.state(0), 5);
        isSum(hall, 0, 7, 1, 0);
        hall.turn(9);
        Due.is("TIME", hall.state(0), 10);
        isSum(hall, 0, 17, 11, 6);
        hall.run(100);
        Due.is("TIME", hall.state(0), 23);
        isSum(hall, 0, 40, 14, 14);
        isPlace(hall, 0, 2, 0, 2, 4, 2, 2);
    }

    private static void sumsOfAStore() {
        EventHall hall = Due.hall("store s 3 9; process g(n) { hold 2; get s n; hold 10; } process p(n) { hold n; put s n; }");
        hall.start(0, 5, 0, 0, 0);
        hall.start(0, 2, 0, 0, 0);
        hall.start(1, 4, 0, 0, 0);
        hall.run(4);
        isSum(hall, 0, 6, 0, 0);
        hall.run(100);
        Due.is("TIME", hall.state(0), 14);
        isSum(hall, 0, 12, 4, 4);
        isPlace(hall, 0, 0, 0, 9, 3, 2, 2);
    }

    private static void longSums() {
        EventHall hall = Due.hall("resource r 99; store s 9999 9999; process p() { let k = 99; while k { seize r; k = k - 1; } hold 999999999; hold 1; }"
                + " process q() { seize r; } process g() { put s 1; }");
        hall.start(0, 0, 0, 0, 0);
        for (int i = 0; i < 10; i++) {
            hall.start(1, 0, 0, 0, 0);
            hall.start(2, 0, 0, 0, 0);
        }
        hall.run(20_000);
        Due.is("TIME", hall.state(0), 1_000_000_000);
        isSum(hall, 0, 99_000_000_000L, 10_000_000_000L, 10_000_000_000L);
        isSum(hall, 1, 9_999_000_000_000L, 10_000_000_000L, 0);
    }
}
