/** Promise 14: trace. */
public final class TraceTest {
    private static final int NONE_SUCH = -2_000_000_000;

    private TraceTest() {
    }

    public static void main(String[] args) {
        lines();
        noneSuch();
        notKept();
        Due.close();
    }

    private static void lines() {
        EventHall hall = Due.hall("process p(n) { say n; hold 3; say -n; say now; }");
        hall.start(0, 5, 0, 0, 0);
        hall.start(0, Integer.MAX_VALUE, 0, 0, 0);
        Due.isTrace(hall);
        hall.run(100);
        Due.isTrace(hall, 0, 5, 0, Integer.MAX_VALUE, 3, -5, 3, 3, 3, -Integer.MAX_VALUE, 3, 3);
    }

    private static void noneSuch() {
        EventHall hall = Due.hall("process p() { say 5; }");
        Due.is("trace(0, 0) at first", hall.trace(0, 0), NONE_SUCH);
        hall.start(0, 0, 0, 0, 0);
        hall.run(5);
        int[] wrong = {-1, 1, 2, Integer.MIN_VALUE, Integer.MAX_VALUE};
        for (int i : wrong) {
            Due.is("trace(" + i + ", 0)", hall.trace(i, 0), NONE_SUCH);
        }
        int[] wrongWhat = {-1, 2, 10, Integer.MIN_VALUE, Integer.MAX_VALUE};
        for (int what : wrongWhat) {
            Due.is("trace(0, " + what + ")", hall.trace(0, what), NONE_SUCH);
        }
    }

    private static void notKept() {
        EventHall hall = Due.hall("process p(n) { let k = 0; while k < n { say k; k = k + 1; hold 1; } }");
        hall.start(0, 1002, 0, 0, 0);
        hall.run(20_000);
        Due.is("lines", hall.state(8), 1002);
        Due.is("the first value", hall.trace(0, 1), 0);
        Due.is("the last TIME that is kept", hall.trace(999, 0), 999);
        Due.is("the last value that is kept", hall.trace(999, 1), 999);
        Due.is("not kept", hall.trace(1000, 0), NONE_SUCH);
        Due.is("not kept", hall.trace(1001, 1), NONE_SUCH);
    }
}
