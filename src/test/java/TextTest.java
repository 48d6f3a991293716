/** Promises 1 to 3: a new object, feed, end. */
public final class TextTest {
    private static final int FOUR_BLANKS = 0x20202020;

    private TextTest() {
    }

    public static void main(String[] args) {
        newObject();
        feedCounts();
        feedOrder();
        feedUpToTheRoom();
        endCuts();
        Due.close();
    }

    private static void newObject() {
        EventHall hall = new EventHall();
        for (int what = 0; what <= 10; what++) {
            Due.is("new state(" + what + ")", hall.state(what), EventHall.BAD);
        }
        Due.is("new state(11)", hall.state(11), 0);
        Due.is("new state(12)", hall.state(12), EventHall.BAD);
        Due.is("new number(0)", hall.number(0), -2_000_000_000);
        Due.is("new process(0, 0)", hall.process(0, 0), -2_000_000_000);
        Due.is("new place(0, 0)", hall.place(0, 0), -2);
        Due.is("new sum(0, 0)", hall.sum(0, 0), -1);
        Due.is("new trace(0, 0)", hall.trace(0, 0), -2_000_000_000);
        Due.is("new start", hall.start(0, 0, 0, 0, 0), EventHall.BAD);
        Due.is("new run", hall.run(1), EventHall.BAD);
        Due.is("new turn", hall.turn(1), EventHall.BAD);
        Due.is("new end(0)", hall.end(0), EventHall.BAD);
        Due.is("new seed", hall.seed(5), 1);
        Due.is("new load", hall.load(), 0);
    }

    private static int blanks(EventHall hall) {
        return hall.feed(FOUR_BLANKS, FOUR_BLANKS, FOUR_BLANKS, FOUR_BLANKS, FOUR_BLANKS);
    }

    private static void feedCounts() {
        EventHall hall = new EventHall();
        Due.is("first feed", hall.feed(0, -1, Integer.MIN_VALUE, Integer.MAX_VALUE, 7), 20);
        Due.is("second feed", blanks(hall), 40);
    }

    /** The byte that begins no token stands at its own place for each place of the twenty. */
    private static void feedOrder() {
        for (int place = 0; place < 20; place++) {
            int[] five = {FOUR_BLANKS, FOUR_BLANKS, FOUR_BLANKS, FOUR_BLANKS, FOUR_BLANKS};
            int shift = 24 - place % 4 * 8;
            five[place / 4] = five[place / 4] & ~(255 << shift) | 200 << shift;
            EventHall hall = new EventHall();
            hall.feed(five[0], five[1], five[2], five[3], five[4]);
            Due.is("load with a wrong byte", hall.load(), 1);
            Due.is("place of the wrong byte", hall.state(12), place);
        }
    }

    private static void feedUpToTheRoom() {
        EventHall hall = new EventHall();
        for (int i = 1; i <= 200; i++) {
            Due.is("feed " + i, blanks(hall), 20 * i);
        }
        Due.is("feed beyond the room", hall.feed(-1, -1, -1, -1, -1), EventHall.BAD);
        Due.is("end(19) of the full text", hall.end(19), 3999);
        Due.is("feed with 3,999 there", blanks(hall), EventHall.BAD);
        Due.is("end(1)", hall.end(1), 3980);
        Due.is("feed with 3,980 there", blanks(hall), 4000);
        Due.is("load of all blanks", hall.load(), 0);
        Due.is("feed behind load", blanks(hall), 20);
    }

    private static void endCuts() {
        EventHall hall = new EventHall();
        Due.feed(hall, "number a; # and more");
        Due.is("end(-1)", hall.end(-1), EventHall.BAD);
        Due.is("end(21)", hall.end(21), EventHall.BAD);
        Due.is("end(20)", hall.end(20), 20);
        Due.is("end(9)", hall.end(9), 9);
        Due.is("end(9) with nine there", hall.end(9), EventHall.BAD);
        Due.is("end(0) with nine there", hall.end(0), EventHall.BAD);
        Due.is("feed behind end", blanks(hall), 29);
        Due.is("end(0)", hall.end(0), 9);
        Due.is("load", hall.load(), 0);
        Due.is("number told", hall.number(0), 0);
        Due.is("end behind load", hall.end(0), EventHall.BAD);
    }
}
