/** What every test needs: a count of the wrong answers, and a way to give a text to a hall. */
final class Due {
    private static final int BYTES = 20;
    private static final int SHOWN = 200;
    private static int wrong = 0;
    private static int asked = 0;

    private Due() {
    }

    static void is(String what, long got, long want) {
        asked++;
        if (got != want) {
            wrong++;
            String shown = what.length() > SHOWN ? what.substring(0, SHOWN) + " .." : what;
            System.out.println(shown + " answered " + got + ", due is " + want);
        }
    }

    static void isTrue(String what, boolean got) {
        is(what, got ? 1 : 0, 1);
    }

    /** The last line of each test's main. */
    static void close() {
        System.out.println(asked + " answers, " + wrong + " not as due");
        if (wrong != 0 || asked == 0) {
            System.exit(1);
        }
    }

    /** Feeds a text to the hall and cuts off what fills the last twenty bytes. */
    static void feed(EventHall hall, String text) {
        for (int at = 0; at < text.length(); at += BYTES) {
            int[] five = new int[5];
            for (int i = 0; i < BYTES; i++) {
                int b = at + i < text.length() ? text.charAt(at + i) : ' ';
                five[i / 4] = five[i / 4] << 8 | b;
            }
            hall.feed(five[0], five[1], five[2], five[3], five[4]);
        }
        if (text.length() % BYTES != 0) {
            hall.end(text.length() % BYTES);
        }
    }

    /** A new hall that has read the text without fault. */
    static EventHall hall(String text) {
        EventHall hall = new EventHall();
        feed(hall, text);
        is("load of " + text, hall.load(), 0);
        return hall;
    }

    /** Process p of the hall, in the order of process(p, 1) to process(p, 6). */
    static void isProcess(EventHall hall, int p, int how, int goesOn, int waitsFor, int units, int wrongness, int since) {
        int[] want = {how, goesOn, waitsFor, units, wrongness, since};
        for (int i = 0; i < want.length; i++) {
            is("process(" + p + ", " + (i + 1) + ")", hall.process(p, i + 1), want[i]);
        }
    }

    /** The whole trace, as TIME and value by turns. */
    static void isTrace(EventHall hall, int... want) {
        is("lines of the trace", hall.state(8), want.length / 2);
        for (int i = 0; i < want.length; i++) {
            is("trace(" + i / 2 + ", " + i % 2 + ")", hall.trace(i / 2, i % 2), want[i]);
        }
    }
}
