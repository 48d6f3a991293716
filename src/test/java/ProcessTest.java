/** Promise 11: process, and how processes go on, wait, end and go WRONG. */
public final class ProcessTest {
    private static final int NO = EventHall.NONE;
    private static final int NONE_SUCH = -2_000_000_000;

    private ProcessTest() {
    }

    public static void main(String[] args) {
        noneSuch();
        ways();
        variables();
        holding();
        placeInLine();
        waking();
        stopping();
        awaiting();
        awaitGoesWrong();
        goingWrong();
        unitsGoBackWhenWrong();
        Due.close();
    }

    private static void noneSuch() {
        EventHall hall = Due.hall("process p(a) { let b = 1; }");
        hall.start(0, 0, 0, 0, 0);
        int[] wrong = {-1, 1, 299, 300, Integer.MIN_VALUE, Integer.MAX_VALUE};
        for (int p : wrong) {
            Due.is("process(" + p + ", 0)", hall.process(p, 0), NONE_SUCH);
        }
        int[] wrongWhat = {-1, 7, 8, 9, 12, 18, 100, Integer.MIN_VALUE, Integer.MIN_VALUE + 10, Integer.MAX_VALUE};
        for (int what : wrongWhat) {
            Due.is("process(0, " + what + ")", hall.process(0, what), NONE_SUCH);
        }
    }

    private static void ways() {
        EventHall hall = Due.hall("store s 0 2; resource r 1; number g;"
                + " process hold1() { seize r; hold 7; }"
                + " process seiz() { hold 2; seize r; } process gets() { hold 2; get s 1; } process puts() { hold 2; put s 2; put s 2; }"
                + " process awai() { hold 2; await g; } process ends() { hold 2; end; }"
                + " process wron() { hold 2; hold -1; } process amid() { hold 2; say 1; say 2; }");
        for (int d = 0; d < 8; d++) {
            hall.start(d, 0, 0, 0, 0);
        }
        Due.is("up to TIME 2", hall.run(17), 17);
        Due.isProcess(hall, 0, 1, 7, NO, 1, 0, 0);
        Due.isProcess(hall, 1, 2, NO, 0, 0, 0, 2);
        Due.isProcess(hall, 2, 0, 2, NO, 0, 0, 2);
        Due.isProcess(hall, 3, 3, NO, 1, 0, 0, 2);
        Due.isProcess(hall, 4, 4, NO, NO, 0, 0, 2);
        Due.isProcess(hall, 5, 5, NO, NO, 0, 0, NO);
        Due.isProcess(hall, 6, 6, NO, NO, 0, 2, NO);
        Due.isProcess(hall, 7, 7, NO, NO, 0, 0, NO);
        for (int p = 0; p < 8; p++) {
            Due.is("definition", hall.process(p, 0), p);
        }
        hall.run(100);
        Due.isProcess(hall, 0, 5, NO, NO, 0, 0, NO);
        Due.isProcess(hall, 1, 5, NO, NO, 0, 0, NO);
        Due.isProcess(hall, 4, 4, NO, NO, 0, 0, 2);
    }

    private static void variables() {
        EventHall hall = Due.hall("process p(a, b) { let c = a + b; if a { let d = 4; } else { let e = 5; } a = 9; hold 1; let f = c; }");
        hall.start(0, 1, 2, 3, 4);
        int[] first = {1, 2, 0, 0, 0, 0, NONE_SUCH};
        for (int i = 0; i < first.length; i++) {
            Due.is("at first " + i, hall.process(0, 10 + i), first[i]);
        }
        hall.turn(100);
        int[] then = {9, 2, 3, 4, 0, 0, NONE_SUCH};
        for (int i = 0; i < then.length; i++) {
            Due.is("then " + i, hall.process(0, 10 + i), then[i]);
        }
        hall.turn(100);
        Due.is("behind its end", hall.process(0, 15), 3);
    }

    private static void holding() {
        EventHall hall = Due.hall("process p(n) { hold 1; hold n; say now; }");
        hall.start(0, 0, 0, 0, 0);
        hall.start(0, 999_999_999, 0, 0, 0);
        hall.start(0, 1_000_000_000, 0, 0, 0);
        hall.start(0, -1, 0, 0, 0);
        hall.start(0, Integer.MAX_VALUE, 0, 0, 0);
        hall.run(100);
        Due.isTrace(hall, 1, 1, 1_000_000_000, 1_000_000_000);
        int[] wrong = {0, 0, 2, 2, 2};
        for (int p = 0; p < wrong.length; p++) {
            Due.is("WRONG of " + p, hall.process(p, 5), wrong[p]);
        }
    }

    private static void placeInLine() {
        EventHall hall = Due.hall("process p(n) { hold n; say me; hold 0; say me * 10; }"
                + " process s() { start p(0) 2; start p(0); hold 2; say 9; }");
        hall.start(0, 2, 0, 0, 0);
        hall.start(1, 0, 0, 0, 0);
        hall.start(0, 1, 0, 0, 0);
        hall.run(100);
        Due.isTrace(hall, 0, 4, 0, 40, 1, 2, 1, 20, 2, 0, 2, 9, 2, 0, 2, 3, 2, 30);
    }

    private static void waking() {
        EventHall hall = Due.hall("number g; resource r 1; process sleeper() { hold 50; say 100 + me; hold 9; }"
                + " process late() { say 200; } process waiter() { await g; }"
                + " process waker() { start late() 30; hold 3; wake 0; wake 1; wake 2; wake me; wake 3; say 1; wake 5; say 2; wake -1; }");
        hall.start(0, 0, 0, 0, 0);
        hall.start(0, 0, 0, 0, 0);
        hall.start(2, 0, 0, 0, 0);
        hall.start(3, 0, 0, 0, 0);
        hall.run(5);
        Due.isProcess(hall, 0, 1, 50, NO, 0, 0, 0);
        Due.is("two wakes more", hall.run(2), 2);
        Due.is("amid", hall.state(10), 3);
        Due.isProcess(hall, 0, 0, 3, NO, 0, 0, 3);
        Due.isProcess(hall, 1, 0, 3, NO, 0, 0, 3);
        hall.run(3);
        Due.isProcess(hall, 2, 4, NO, NO, 0, 0, 0);
        Due.isProcess(hall, 4, 0, 30, NO, 0, 0, 0);
        hall.run(100);
        Due.is("WRONG 7: none such", hall.process(3, 5), 7);
        Due.isTrace(hall, 3, 1, 3, 100, 3, 101, 30, 200);
        Due.is("TIME", hall.state(0), 30);
    }

    private static void stopping() {
        EventHall hall = Due.hall("number g; resource r 2; store s 0 9;"
                + " process holds() { seize r; seize r; hold 50; say 1; } process seizes() { seize r; say me; hold 1; }"
                + " process gets(n) { get s n; say 40 + n; } process awaits() { await g; }"
                + " process stops() { hold 5; stop 1; stop 0; stop 6; stop 7; stop 0; stop me; say 2; }");
        int[] starts = {0, 1, 1, 1, 1, 1, 3, 2, 2};
        for (int d : starts) {
            hall.start(d, 5, 0, 0, 0);
        }
        Due.is("the stopping one", hall.start(4, 0, 0, 0, 0), 9);
        hall.run(13);
        Due.is("up to stop 1", hall.state(10), 9);
        Due.isProcess(hall, 1, 5, NO, NO, 0, 0, NO);
        Due.is("those that wait for r", hall.place(0, 1), 4);
        Due.is("the first is 2", hall.place(0, 10), 2);
        hall.run(1);
        Due.isProcess(hall, 0, 5, NO, NO, 0, 0, NO);
        Due.isProcess(hall, 2, 0, 5, NO, 1, 0, 5);
        Due.isProcess(hall, 3, 0, 5, NO, 1, 0, 5);
        Due.isProcess(hall, 4, 2, NO, 0, 0, 0, 0);
        hall.run(1);
        Due.isProcess(hall, 6, 5, NO, NO, 0, 0, NO);
        hall.run(1);
        Due.is("7 waits no more", hall.place(1, 10), 8);
        hall.run(2);
        Due.isProcess(hall, 9, 5, NO, NO, 0, 0, NO);
        hall.run(100);
        Due.isTrace(hall, 5, 2, 5, 3, 6, 4, 6, 5);
        Due.is("ended", hall.state(6), 9);
        Due.is("WRONG", hall.state(7), 0);
        EventHall none = Due.hall("process p(n) { stop n; say 1; }");
        int[] wrong = {-1, 4, Integer.MAX_VALUE, Integer.MIN_VALUE};
        for (int n : wrong) {
            none.start(0, n, 0, 0, 0);
        }
        none.run(100);
        for (int p = 0; p < wrong.length; p++) {
            Due.is("WRONG 7", none.process(p, 5), 7);
        }
    }

    private static void awaiting() {
        EventHall hall = Due.hall("number g; process a(n) { await g >= n; say me; await 1; while g < 3 { await g > 2; } say 10 + me; }"
                + " process b() { hold 1; g = 1; say 50; g = 0; hold 1; g = 1; hold 1; g = 2; hold 1; g = 3; }");
        hall.start(0, 1, 0, 0, 0);
        hall.start(0, 2, 0, 0, 0);
        hall.start(0, 1, 0, 0, 0);
        hall.start(1, 0, 0, 0, 0);
        hall.turn(9);
        Due.isProcess(hall, 0, 4, NO, NO, 0, 0, 0);
        hall.run(200);
        Due.isTrace(hall, 1, 50, 2, 0, 2, 2, 3, 1, 4, 10, 4, 12, 4, 11);
        Due.is("all ended", hall.state(6), 4);
    }

    private static void awaitGoesWrong() {
        EventHall hall = Due.hall("number g; resource r 1;"
                + " process w() { seize r; await 1 / (g - 1) == 7; say 1; } process s() { seize r; say 2; }"
                + " process a() { await units r > 0; say 3; } process b() { await queue r == 0; say 4; }"
                + " process c() { hold 2; g = 1; }");
        for (int d = 0; d < 5; d++) {
            hall.start(d, 0, 0, 0, 0);
        }
        hall.run(200);
        Due.isProcess(hall, 0, 6, NO, NO, 0, 1, NO);
        Due.isTrace(hall, 2, 2, 2, 4, 2, 3);
        EventHall atOnce = Due.hall("process p() { await 1 % 0; say 1; }");
        atOnce.start(0, 0, 0, 0, 0);
        Due.is("one step", atOnce.run(9), 1);
        Due.isProcess(atOnce, 0, 6, NO, NO, 0, 1, NO);
    }

    private static void goingWrong() {
        wrong("say 1 / 0;", 1);
        wrong("if 1 % 0 { }", 1);
        wrong("while 1 / 0 { }", 1);
        wrong("seize r 1 / 0;", 1);
        wrong("start q(1 / 0);", 1);
        wrong("start q(1) 1 / 0;", 1);
        wrong("stop 1 / 0;", 1);
        wrong("hold -1;", 2);
        wrong("hold 999999999; hold 2;", 2);
        wrong("start q(1) -1;", 2);
        wrong("free r;", 3);
        wrong("seize r; free r; free r;", 3);
        wrong("seize r; free t;", 3);
        wrong("put s 0;", 4);
        wrong("put s -1;", 4);
        wrong("put s 6;", 4);
        wrong("get s 0;", 4);
        wrong("get s 6;", 4);
        wrong("say draw(0);", 6);
        wrong("hold draw(-5);", 6);
        wrong("wake 2;", 7);
        wrong("stop -1;", 7);
    }

    private static void wrong(String block, int number) {
        EventHall hall = Due.hall("resource r 1; resource t 1; store s 0 5; process p() { " + block + " say 1; } process q(a) { hold 1; say 5; }");
        hall.start(0, 0, 0, 0, 0);
        hall.start(1, 0, 0, 0, 0);
        hall.run(100);
        Due.isProcess(hall, 0, 6, NO, NO, 0, number, NO);
        Due.is("those that went WRONG by " + block, hall.state(7), 1);
        Due.isTrace(hall, 1, 5);
        Due.is("r is free", hall.place(0, 0), 1);
    }

    private static void unitsGoBackWhenWrong() {
        EventHall hall = Due.hall("resource r 1; resource t 2; process p() { seize t; seize r; seize t; hold 3; say 1 / 0; }"
                + " process q() { seize t; say 10 + me; hold 1; } process u() { seize r; say 20 + me; hold 1; }");
        int[] starts = {0, 1, 2, 1, 1};
        for (int d : starts) {
            hall.start(d, 0, 0, 0, 0);
        }
        hall.run(7);
        Due.is("units", hall.process(0, 4), 3);
        hall.run(100);
        Due.isTrace(hall, 3, 22, 3, 11, 3, 13, 4, 14);
        Due.is("r", hall.place(0, 0), 1);
        Due.is("t", hall.place(1, 0), 2);
    }
}
