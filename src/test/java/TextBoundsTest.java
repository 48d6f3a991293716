/** The bounds of promises 1 to 3 and of an object's use; each test bears the sentence of the document. */
public final class TextBoundsTest {
    private static final int BLANKS = 0x20202020, WRONG_BYTES = 0x24242424;
    private static final int NO_VALUE = -2_000_000_000;

    private TextBoundsTest() {
    }

    public static void main(String[] args) {
        upTo4000Bytes();
        feedOfMoreThan4000();
        feedOfMoreChangesNothing();
        feedsHighestByteFirst();
        endOfAnotherNumber();
        endWithFewerThanTwenty();
        endKeepsTheFirst();
        newObjectHasNoText();
        newObjectHasNothingRead();
        newObjectHasSeed1();
        used512Times();
        Due.close();
    }

    private static int feedBlanks(EventHall hall) {
        return hall.feed(BLANKS, BLANKS, BLANKS, BLANKS, BLANKS);
    }

    private static int feedWrongBytes(EventHall hall) {
        return hall.feed(WRONG_BYTES, WRONG_BYTES, WRONG_BYTES, WRONG_BYTES, WRONG_BYTES);
    }

    /** A hall with so many blanks as its text. */
    private static EventHall blanks(int count) {
        EventHall hall = new EventHall();
        Due.feed(hall, " ".repeat(count));
        return hall;
    }

    /** "THE TEXT has up to 4,000 bytes." */
    private static void upTo4000Bytes() {
        String full = " ".repeat(3981) + "number a; number b;";
        Due.is("bytes of the full text", full.length(), 4000);
        EventHall hall = Due.hall(full);
        Due.is("the number that its last byte tells", hall.number(1), 0);
        Due.is("no number behind it", hall.number(2), NO_VALUE);
        Texts.fault(" ".repeat(3999) + "$", 1, 3999);
        Texts.fault(" ".repeat(3994) + "number", 2, 4000);
        Texts.fault(" ".repeat(3993) + "number", 2, 3999);
        Texts.good(" ".repeat(4000));
        Texts.good("#" + "$".repeat(3999));
        Texts.fault(";".repeat(4000), 2, 0);
        Texts.good("process p(){say " + "1+".repeat(1990) + "10;}");
    }

    /** "BAD, changing nothing: there would be more than 4,000." Of feed(). */
    private static void feedOfMoreThan4000() {
        for (int there = 3960; there <= 4000; there++) {
            int want = there <= 3980 ? there + 20 : EventHall.BAD;
            Due.is("feed behind " + there + " bytes", feedBlanks(blanks(there)), want);
        }
    }

    /** "BAD, changing nothing: there would be more than 4,000." */
    private static void feedOfMoreChangesNothing() {
        for (int there = 3981; there <= 4000; there++) {
            EventHall hall = blanks(there);
            Due.is("refused behind " + there, feedWrongBytes(hall), EventHall.BAD);
            Due.is("refused again behind " + there, feedWrongBytes(hall), EventHall.BAD);
            Due.is("as many as before", hall.end(20), there);
            Due.is("no byte of the refused ones", hall.load(), 0);
        }
    }

    /** "Twenty bytes come behind the text, the highest of each number first: how many it has." */
    private static void feedsHighestByteFirst() {
        for (int place = 0; place < 20; place++) {
            for (int b : new int[] {0, 1, 127, 128, 255}) {
                int[] five = {BLANKS, BLANKS, BLANKS, BLANKS, BLANKS};
                int shift = 24 - place % 4 * 8;
                five[place / 4] = five[place / 4] & ~(255 << shift) | b << shift;
                EventHall hall = blanks(20);
                Due.is("feed", hall.feed(five[0], five[1], five[2], five[3], five[4]), 40);
                Due.is("load with the byte " + b, hall.load(), 1);
                Due.is("place of the byte " + b, hall.state(12), 20 + place);
            }
        }
        EventHall hall = new EventHall();
        Due.is("feed of the least and the greatest", hall.feed(Integer.MIN_VALUE, Integer.MAX_VALUE, -1, 0, 1), 20);
    }

    /** "the first n (0 .. 20) stay"; "BAD: another n". Of end(). */
    private static void endOfAnotherNumber() {
        for (int n : new int[] {-1, 21, -20, 40, Integer.MIN_VALUE, Integer.MAX_VALUE}) {
            EventHall hall = blanks(40);
            Due.is("end(" + n + ")", hall.end(n), EventHall.BAD);
            Due.is("all stay", hall.end(20), 40);
        }
        Due.is("end(0)", blanks(40).end(0), 20);
        Due.is("end(1)", blanks(40).end(1), 21);
        Due.is("end(19)", blanks(40).end(19), 39);
        Due.is("end(20)", blanks(40).end(20), 40);
        Due.is("end(0) of a full text", blanks(4000).end(0), 3980);
        Due.is("end(20) of a full text", blanks(4000).end(20), 4000);
    }

    /** "BAD: another n, or fewer than twenty are there." Of end(). */
    private static void endWithFewerThanTwenty() {
        for (int there = 0; there <= 19; there++) {
            EventHall hall = blanks(there);
            for (int n = 0; n <= 20; n++) {
                Due.is("end(" + n + ") of " + there, hall.end(n), EventHall.BAD);
            }
            Due.is("as many as before", feedBlanks(hall), there + 20);
        }
        Due.is("end(0) of twenty", blanks(20).end(0), 0);
        Due.is("end(20) of twenty", blanks(20).end(20), 20);
        EventHall hall = blanks(25);
        Due.is("end(0) of 25", hall.end(0), 5);
        Due.is("end(0) of 5", hall.end(0), EventHall.BAD);
        Due.is("feed behind 5", feedBlanks(hall), 25);
        EventHall read = blanks(40);
        read.load();
        Due.is("end behind load", read.end(0), EventHall.BAD);
    }

    /** "Of the last twenty bytes of the text the first n (0 .. 20) stay: how many it has." */
    private static void endKeepsTheFirst() {
        for (int n = 0; n <= 20; n++) {
            for (int place = 0; place < 40; place++) {
                EventHall hall = new EventHall();
                Due.feed(hall, " ".repeat(place) + "$" + " ".repeat(39 - place));
                Due.is("end(" + n + ")", hall.end(n), 20 + n);
                Due.is("load with a wrong byte at " + place, hall.load(), place < 20 + n ? 1 : 0);
                Due.is("its place", hall.state(12), place < 20 + n ? place : EventHall.BAD);
            }
        }
        EventHall hall = new EventHall();
        Due.feed(hall, "number a; number b, ");
        hall.end(18);
        Due.feed(hall, "1; $ $ $ $ $ $ $ $ $");
        hall.end(2);
        Due.is("what comes behind what stays", hall.load(), 0);
        Due.is("two numbers", hall.number(1), 0);
    }

    /** "No text, nothing read, SEED 1." */
    private static void newObjectHasNoText() {
        Due.is("end(0)", new EventHall().end(0), EventHall.BAD);
        Due.is("first feed", feedBlanks(new EventHall()), 20);
        EventHall hall = new EventHall();
        Due.is("load of no text", hall.load(), 0);
        Due.is("no definition", hall.start(0, 0, 0, 0, 0), EventHall.BAD);
        Due.is("no number", hall.number(0), NO_VALUE);
        Due.is("no place", hall.place(0, 0), -2);
    }

    /** "No text, nothing read, SEED 1.": every call that needs something read is BAD. */
    private static void newObjectHasNothingRead() {
        EventHall hall = new EventHall();
        for (int what = 0; what <= 10; what++) {
            Due.is("state(" + what + ")", hall.state(what), EventHall.BAD);
        }
        Due.is("fault of no load", hall.state(11), 0);
        Due.is("place of no fault", hall.state(12), EventHall.BAD);
        Due.is("start", hall.start(0, 0, 0, 0, 0), EventHall.BAD);
        Due.is("run", hall.run(1), EventHall.BAD);
        Due.is("turn", hall.turn(1), EventHall.BAD);
        Due.is("number", hall.number(0), NO_VALUE);
        Due.is("process", hall.process(0, 0), NO_VALUE);
        Due.is("place", hall.place(0, 0), -2);
        Due.is("sum", hall.sum(0, 0), EventHall.BAD);
        Due.is("trace", hall.trace(0, 0), NO_VALUE);
        feedBlanks(hall);
        Due.is("a text that was not read", hall.state(0), EventHall.BAD);
    }

    /** "No text, nothing read, SEED 1." */
    private static void newObjectHasSeed1() {
        Due.is("seed", new EventHall().seed(0), 1);
        EventHall hall = new EventHall();
        hall.load();
        Due.is("SEED", hall.state(9), 1);
    }

    /** "An object is used for at most 512 calls after it has been made": the 512th is answered as the first ones are. */
    private static void used512Times() {
        EventHall hall = new EventHall();
        String text = "number g; process p() { while 1 { g = g + 1; hold 1; } }    ";
        Due.is("its bytes", text.length() % 20, 0);
        Due.feed(hall, text);
        hall.load();
        hall.start(0, 0, 0, 0, 0);
        int calls = text.length() / 20 + 2;
        for (; calls < 511; calls++) {
            Due.is("run(20000)", hall.run(20_000), 20_000);
        }
        Due.is("the 512th call", hall.state(1), 20_000 * (511 - text.length() / 20 - 2));
        EventHall fed = new EventHall();
        for (int i = 1; i <= 511; i++) {
            Due.is("feed " + i, feedBlanks(fed), i <= 200 ? 20 * i : EventHall.BAD);
        }
        Due.is("the 512th call is load()", fed.load(), 0);
    }
}
