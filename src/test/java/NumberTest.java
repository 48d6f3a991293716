/** Promise 10: number; and what expressions are worth. */
public final class NumberTest {
    private static final int NONE_SUCH = -2_000_000_000;

    private NumberTest() {
    }

    public static void main(String[] args) {
        orderOfTelling();
        numbersKeepTheirValues();
        hiddenNumbers();
        arithmetic();
        wrapping();
        truths();
        secondSides();
        lookingAround();
        divisionsByZero();
        deepExpressions();
        longExpressions();
        Due.close();
    }

    private static void orderOfTelling() {
        EventHall hall = Due.hall("number b; process p() { b = 3; } number a, c; process q() { a = 4; c = 5; }");
        for (int i = 0; i < 3; i++) {
            Due.is("number(" + i + ") at first", hall.number(i), 0);
        }
        hall.start(0, 0, 0, 0, 0);
        hall.start(1, 0, 0, 0, 0);
        hall.run(9);
        int[] want = {NONE_SUCH, 3, 4, 5, NONE_SUCH};
        for (int i = 0; i < want.length; i++) {
            Due.is("number(" + (i - 1) + ")", hall.number(i - 1), want[i]);
        }
        Due.is("number(max)", hall.number(Integer.MAX_VALUE), NONE_SUCH);
        Due.is("number(min)", hall.number(Integer.MIN_VALUE), NONE_SUCH);
        Due.is("none told", Due.hall("resource r 1;").number(0), NONE_SUCH);
    }

    private static void numbersKeepTheirValues() {
        EventHall hall = Due.hall("number g; process p(n) { g = g * 10 + n; }");
        hall.start(0, 1, 0, 0, 0);
        hall.start(0, 2, 0, 0, 0);
        hall.run(9);
        hall.start(0, 3, 0, 0, 0);
        hall.run(9);
        Due.is("all three", hall.number(0), 123);
    }

    private static void hiddenNumbers() {
        EventHall hall = Due.hall("number g, h; process p(g) { g = g + 1; h = g; }"
                + " process q() { g = 5; let g = g + 2; g = g * 2; h = g; }");
        hall.start(0, 7, 0, 0, 0);
        hall.run(9);
        Due.is("g is hidden by a parameter", hall.number(0), 0);
        Due.is("the parameter", hall.number(1), 8);
        hall.start(1, 0, 0, 0, 0);
        hall.run(9);
        Due.is("g before its let", hall.number(0), 5);
        Due.is("the let", hall.number(1), 14);
    }

    /** The value of an expression in a process with a = 7, b = -3, z = 0. */
    private static void worth(String expression, int want) {
        EventHall hall = Due.hall("number g; resource r 3; store s 2 9; process p(a, b, z) { g = " + expression + "; }");
        hall.start(0, 7, -3, 0, 0);
        Due.is("one step", hall.run(5), 1);
        Due.is("not WRONG", hall.process(0, 5), 0);
        Due.is(expression, hall.number(0), want);
    }

    private static void arithmetic() {
        worth("a", 7);
        worth("123456789", 123_456_789);
        worth("a + b * 2", 1);
        worth("(a + b) * 2", 8);
        worth("a - b - 1", 9);
        worth("a - (b - 1)", 11);
        worth("a * 3 / 2 * 2", 20);
        worth("100 / 7 % 4", 2);
        worth("a / 2", 3);
        worth("b / 2", -1);
        worth("a / b", -2);
        worth("a % b", 1);
        worth("b % 2", -1);
        worth("-a", -7);
        worth("--a", 7);
        worth("-a - -b", -10);
        worth("-a * b", 21);
        worth("2 - 3 * 4 + 20 / 5 - 6 % 4", -8);
        worth("1 + 2 < 4", 1);
        worth("-(1 + 2) * 2", -6);
    }

    private static void wrapping() {
        worth("999999999 + 999999999 + 999999999", (int) 2_999_999_997L);
        worth("999999999 * 999999999", 999_999_999 * 999_999_999);
        worth("-2147483 * 1000 - 648", Integer.MIN_VALUE);
        worth("-(-2147483 * 1000 - 648)", Integer.MIN_VALUE);
        worth("(-2147483 * 1000 - 648) / -1", Integer.MIN_VALUE);
        worth("(-2147483 * 1000 - 648) % -1", 0);
        worth("-2147483 * 1000 - 649", Integer.MAX_VALUE);
    }

    private static void truths() {
        worth("a < 7", 0);
        worth("a < 8", 1);
        worth("a > 7", 0);
        worth("a > 6", 1);
        worth("a <= 6", 0);
        worth("a <= 7", 1);
        worth("a >= 8", 0);
        worth("a >= 7", 1);
        worth("a == 7", 1);
        worth("a == 8", 0);
        worth("a != 7", 0);
        worth("a != 8", 1);
        worth("!a", 0);
        worth("!z", 1);
        worth("!!a", 1);
        worth("!a + 1", 1);
        worth("a && b", 1);
        worth("a && z", 0);
        worth("z && a", 0);
        worth("a || z", 1);
        worth("z || b", 1);
        worth("z || z", 0);
        worth("1 || 0 && 0", 1);
        worth("(1 || 0) && 0", 0);
        worth("0 && 0 || 5", 1);
        worth("1 && 2 && 3", 1);
        worth("0 || 0 || 9", 1);
        worth("a < 8 && b < 0 || z", 1);
        worth("(a && b) + (z || a)", 2);
        worth("(a > 6) == 1 || 0", 1);
    }

    private static void secondSides() {
        worth("0 && 1 / z", 0);
        worth("1 || 1 / z", 1);
        worth("0 && 1 / z || 4", 1);
        worth("1 || 1 / z && 1 / z", 1);
        worth("(z && 1 / z) + 3", 3);
        EventHall hall = Due.hall("number g; process p() { g = 0 && draw(5); g = g + (1 || draw(5)); }");
        hall.start(0, 0, 0, 0, 0);
        hall.run(5);
        Due.is("nothing was drawn", hall.state(9), 1);
        Due.is("number", hall.number(0), 1);
    }

    private static void lookingAround() {
        worth("units r * 10 + units s", 32);
        worth("queue r + queue s", 0);
        worth("now * 10 + me", 0);
        EventHall hall = Due.hall("number g; resource r 1; store s 0 4; process p() { seize r; hold 9; }"
                + " process q() { get s 3; } process u() { put s 2; put s 3; }"
                + " process look() { hold 2; g = ((queue r * 10 + queue s) * 10 + units s) * 100 + now * 10 + me; }");
        int[] starts = {0, 0, 0, 2, 1, 1, 3};
        for (int d : starts) {
            hall.start(d, 0, 0, 0, 0);
        }
        hall.run(100);
        Due.is("two wait for r, three for s, 2 are there, at 2, by 6", hall.number(0), 23_226);
    }

    /** Each bracket keeps three left sides, behind seven arguments. */
    private static void deepExpressions() {
        String expression = "1";
        for (int i = 0; i < 30; i++) {
            expression = "2 > 1 + 1 * (" + expression + ")";
        }
        worth(expression, 1);
        EventHall hall = Due.hall("process p() { start q(1, 2, 3, 4, 5, 6, 7, " + expression + " + 8) 1; }"
                + " process q(a, b, c, d, e, f, g, h) { }");
        hall.start(0, 0, 0, 0, 0);
        hall.run(1);
        for (int i = 0; i < 7; i++) {
            Due.is("argument", hall.process(1, 10 + i), i + 1);
        }
        Due.is("the last argument", hall.process(1, 17), 0);
        Due.is("the time", hall.process(1, 2), 1);
    }

    private static void longExpressions() {
        worth("1" + "+1".repeat(1900), 1901);
        worth("1" + "-1*1".repeat(900), -899);
        worth("0" + "||0".repeat(1200) + "||4", 1);
        worth("1" + "&&1".repeat(1200) + "&&0", 0);
        worth("1" + "&&0||1".repeat(600), 1);
    }

    private static void divisionsByZero() {
        String[] expressions = {"1 / 0", "1 % 0", "0 / n", "5 + (2 - 7 % n)", "1 && 1 / n", "0 || 1 % n", "!(1 / n)"};
        for (String expression : expressions) {
            EventHall hall = Due.hall("number g; process p(n) { g = 1; g = " + expression + "; g = 2; }");
            hall.start(0, 0, 0, 0, 0);
            Due.is("two steps", hall.run(5), 2);
            Due.is("WRONG 1", hall.process(0, 5), 1);
            Due.is("nothing was set", hall.number(0), 1);
        }
    }
}
