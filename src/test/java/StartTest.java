/** Promise 6: start from outside; and the statement start. */
public final class StartTest {
    private StartTest() {
    }

    public static void main(String[] args) {
        startFromOutside();
        letsAreNotGiven();
        startIsRefused();
        startAmidATurn();
        mostProcesses();
        startStatement();
        startGoesWrong();
        Due.close();
    }

    private static void startFromOutside() {
        EventHall hall = Due.hall("process p() { } process q(a, b, c) { hold 5; }"
                + " process r(a, b, c, d, e, f) { let g = 1; }");
        Due.is("first", hall.start(1, 11, 12, 13, 14), 0);
        Due.is("second", hall.start(2, -1, Integer.MIN_VALUE, Integer.MAX_VALUE, 4), 1);
        Due.is("third", hall.start(0, 1, 2, 3, 4), 2);
        Due.is("definition of 0", hall.process(0, 0), 1);
        Due.is("definition of 1", hall.process(1, 0), 2);
        Due.is("definition of 2", hall.process(2, 0), 0);
        int[] ofQ = {11, 12, 13, -2_000_000_000};
        for (int i = 0; i < ofQ.length; i++) {
            Due.is("parameter " + i + " of q", hall.process(0, 10 + i), ofQ[i]);
        }
        int[] ofR = {-1, Integer.MIN_VALUE, Integer.MAX_VALUE, 4, 0, 0, 0, -2_000_000_000};
        for (int i = 0; i < ofR.length; i++) {
            Due.is("parameter " + i + " of r", hall.process(1, 10 + i), ofR[i]);
        }
        Due.is("p has none", hall.process(2, 10), -2_000_000_000);
        Due.isProcess(hall, 0, 0, 0, EventHall.NONE, 0, 0, 0);
        hall.run(1);
        Due.is("TIME stays", hall.state(0), 0);
        hall.run(10);
        Due.is("TIME", hall.state(0), 5);
        Due.is("fourth", hall.start(1, 0, 0, 0, 0), 3);
        Due.isProcess(hall, 3, 0, 5, EventHall.NONE, 0, 0, 5);
    }

    private static void letsAreNotGiven() {
        String lets = "let e = 1; let f = 1; let g = 1; let h = 1; }";
        EventHall hall = Due.hall("process p() { " + lets + " process q(a) { " + lets + " process r(a, b) { " + lets
                + " process s(a, b, c) { " + lets + " process t(a, b, c, d) { " + lets);
        for (int d = 0; d < 5; d++) {
            hall.start(d, 1, 2, 3, 4);
            for (int i = 0; i < d + 4; i++) {
                Due.is("variable " + i + " of definition " + d, hall.process(d, 10 + i), i < d ? i + 1 : 0);
            }
        }
    }

    private static void startIsRefused() {
        EventHall hall = Due.hall("process p() { }");
        Due.is("start(-1)", hall.start(-1, 0, 0, 0, 0), EventHall.BAD);
        Due.is("start(1)", hall.start(1, 0, 0, 0, 0), EventHall.BAD);
        Due.is("start(max)", hall.start(Integer.MAX_VALUE, 0, 0, 0, 0), EventHall.BAD);
        Due.is("none was started", hall.state(3), 0);
    }

    private static void startAmidATurn() {
        EventHall hall = Due.hall("process p() { say 1; say 2; }");
        hall.start(0, 0, 0, 0, 0);
        hall.run(1);
        Due.is("amid", hall.state(10), 0);
        Due.is("start amid a turn", hall.start(0, 0, 0, 0, 0), EventHall.BAD);
        hall.run(1);
        Due.is("start behind it", hall.start(0, 0, 0, 0, 0), 1);
    }

    private static void mostProcesses() {
        EventHall hall = Due.hall("process p() { } process q() { start p(); say 1; }");
        for (int i = 0; i < 299; i++) {
            Due.is("start", hall.start(0, 0, 0, 0, 0), i);
        }
        Due.is("they end without a step", hall.run(5), 0);
        Due.is("299 turns", hall.state(2), 299);
        Due.is("the 300th", hall.start(1, 0, 0, 0, 0), 299);
        Due.is("the 301st", hall.start(0, 0, 0, 0, 0), EventHall.BAD);
        Due.is("one step", hall.run(5), 1);
        Due.is("WRONG 5", hall.process(299, 5), 5);
        Due.is("started", hall.state(3), 300);
        Due.is("none 300", hall.process(300, 0), -2_000_000_000);
    }

    private static void startStatement() {
        EventHall hall = Due.hall("process p(a) { start q(a, a * 2) 3; start q(now, me); say 1; hold 1; say 2; }"
                + " process q(x, y) { say x * 100 + y; let z = 1; }");
        hall.start(0, 4, 0, 0, 0);
        Due.is("two steps", hall.run(2), 2);
        Due.isProcess(hall, 1, 0, 3, EventHall.NONE, 0, 0, 0);
        Due.isProcess(hall, 2, 0, 0, EventHall.NONE, 0, 0, 0);
        Due.is("argument 0", hall.process(1, 10), 4);
        Due.is("argument 1", hall.process(1, 11), 8);
        Due.is("let", hall.process(1, 12), 0);
        hall.run(100);
        Due.isTrace(hall, 0, 1, 0, 0, 1, 2, 3, 408);
        Due.is("let told", hall.process(1, 12), 1);
        Due.is("all ended", hall.state(6), 3);
    }

    private static void startGoesWrong() {
        String text = "process p(n) { hold 1; start q(1) n; say 1; } process q(a) { }";
        int[] spans = {-1, 1_000_000_000, Integer.MIN_VALUE, Integer.MAX_VALUE};
        for (int span : spans) {
            EventHall hall = Due.hall(text);
            hall.start(0, span, 0, 0, 0);
            hall.run(100);
            Due.is("WRONG 2", hall.process(0, 5), 2);
            Due.is("none started", hall.state(3), 1);
        }
        EventHall hall = Due.hall(text);
        hall.start(0, 999_999_999, 0, 0, 0);
        hall.run(100);
        Due.is("not WRONG", hall.process(0, 5), 0);
        Due.is("TIME", hall.state(0), 1_000_000_000);
    }
}
