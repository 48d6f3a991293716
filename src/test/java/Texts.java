/** Texts for the tests, and what load() says of them. */
final class Texts {
    static final String[] RESERVED = ("resource store number process let if else while hold seize free put get"
            + " await start stop wake say end now me draw units queue").split(" ");

    private Texts() {
    }

    /** The fault of a text and its place; place is BAD for fault 0. */
    static void fault(String text, int number, int place) {
        EventHall hall = new EventHall();
        Due.feed(hall, text);
        Due.is("load of " + text, hall.load(), number);
        Due.is("state(11) of " + text, hall.state(11), number);
        Due.is("state(12) of " + text, hall.state(12), place);
        Due.is("TIME of " + text, hall.state(0), number == 0 ? 0 : EventHall.BAD);
    }

    /** As above, the place being where the first mark | stands in the text. */
    static void faultAtMark(String marked, int number) {
        int place = marked.indexOf('|');
        fault(marked.substring(0, place) + marked.substring(place + 1), number, place);
    }

    static void good(String text) {
        fault(text, 0, EventHall.BAD);
    }

    /** Letter and number, from .. to, each with what comes before and behind it. */
    static String numbered(String before, String letter, int from, int to, String behind) {
        StringBuilder all = new StringBuilder();
        for (int i = from; i <= to; i++) {
            all.append(before).append(letter).append(i).append(behind);
        }
        return all.toString();
    }

    static boolean isLetter(int b) {
        return b >= 'a' && b <= 'z' || b >= 'A' && b <= 'Z';
    }

    static boolean isDigit(int b) {
        return b >= '0' && b <= '9';
    }

    static boolean isBlank(int b) {
        return b == 9 || b == 10 || b == 13 || b == 32;
    }

    /** A sign of one byte. */
    static boolean isSign(int b) {
        return "(){},;=+-*/%<>!".indexOf(b) >= 0;
    }
}
