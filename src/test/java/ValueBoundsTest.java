/** The bounds of values, of seed() and of number(); each test bears the sentence of the document. */
public final class ValueBoundsTest {
    private static final int NO_VALUE = -2_000_000_000;
    private static final int LEAST = Integer.MIN_VALUE, GREATEST = Integer.MAX_VALUE;

    private ValueBoundsTest() {
    }

    public static void main(String[] args) {
        sumsWrap();
        productsWrap();
        negationWraps();
        quotientsWrap();
        quotientsCutOff();
        divisionByZero();
        truths();
        relationsOfTheUtmost();
        secondSidesThatAreNotNeeded();
        secondSidesThatAreNeeded();
        time();
        numbersOfProcesses();
        drawsFromEachSeed();
        drawOfTheLeastAndTheGreatest();
        drawOfLessThanOne();
        unitsOfPlaces();
        queuesOfPlaces();
        seedWithinItsBounds();
        seedOfAnother();
        numberByItsOrder();
        numberOfNoneSuch();
        numberOfTheUtmost();
        theDeepestExpression();
        Due.close();
    }

    /** The value of an expression of a and b, which are given from outside. */
    private static void worth(String expression, int a, int b, int want) {
        EventHall hall = Due.hall("number g; process p(a, b) { g = " + expression + "; }");
        hall.start(0, a, b, 0, 0);
        hall.run(1);
        Due.is("WRONG by " + expression, hall.process(0, 5), 0);
        Due.is(expression + " of " + a + ", " + b, hall.number(0), want);
    }

    private static void wrong(String expression, int a, int b, int number) {
        EventHall hall = Due.hall("number g; process p(a, b) { g = 1; g = " + expression + "; g = 3; }");
        hall.start(0, a, b, 0, 0);
        Due.is("STEPS up to " + expression, hall.run(9), 2);
        Due.is("WRONG by " + expression + " of " + a + ", " + b, hall.process(0, 5), number);
        Due.is("nothing is set", hall.number(0), 1);
    }

    /** "VALUES are numbers of 32 bits that wrap": + and - */
    private static void sumsWrap() {
        worth("a + b", GREATEST, 0, GREATEST);
        worth("a + b", GREATEST, 1, LEAST);
        worth("a + b", GREATEST, GREATEST, -2);
        worth("a + b", LEAST, 0, LEAST);
        worth("a + b", LEAST, -1, GREATEST);
        worth("a + b", LEAST, LEAST, 0);
        worth("a - b", GREATEST, -1, LEAST);
        worth("a - b", LEAST, 1, GREATEST);
        worth("a - b", 0, LEAST, LEAST);
        worth("a - b", -1, LEAST, GREATEST);
        worth("a + 1 - 1", GREATEST, 0, GREATEST);
    }

    /** "VALUES are numbers of 32 bits that wrap": * */
    private static void productsWrap() {
        worth("a * b", 65_536, 32_767, 2_147_418_112);
        worth("a * b", 65_536, 32_768, LEAST);
        worth("a * b", 65_536, 65_536, 0);
        worth("a * b", 65_537, 65_537, 131_073);
        worth("a * b", GREATEST, 2, -2);
        worth("a * b", GREATEST, GREATEST, 1);
        worth("a * b", LEAST, -1, LEAST);
        worth("a * b", LEAST, LEAST, 0);
        worth("999999999 * 999999999", 0, 0, 999_999_999 * 999_999_999);
    }

    /** "VALUES are numbers of 32 bits that wrap": - before a one */
    private static void negationWraps() {
        worth("-a", GREATEST, 0, -GREATEST);
        worth("-a", -GREATEST, 0, GREATEST);
        worth("-a", LEAST, 0, LEAST);
        worth("-a", 0, 0, 0);
        worth("--a", LEAST, 0, LEAST);
    }

    /** "VALUES are numbers of 32 bits that wrap": / and % */
    private static void quotientsWrap() {
        worth("a / b", LEAST, -1, LEAST);
        worth("a % b", LEAST, -1, 0);
        worth("a / b", -GREATEST, -1, GREATEST);
        worth("a % b", GREATEST, -1, 0);
        worth("a / b", LEAST, 1, LEAST);
        worth("a / b", LEAST, LEAST, 1);
        worth("a % b", GREATEST, LEAST, GREATEST);
        worth("a / b", GREATEST, LEAST, 0);
    }

    /** "/ and % cut off towards 0" */
    private static void quotientsCutOff() {
        int[][] rows = {{7, 2, 3, 1}, {-7, 2, -3, -1}, {7, -2, -3, 1}, {-7, -2, 3, -1}, {1, 2, 0, 1}, {-1, 2, 0, -1}, {1, -2, 0, 1},
            {-1, -2, 0, -1}, {2, 2, 1, 0}, {-2, 2, -1, 0}, {0, 5, 0, 0}, {0, -5, 0, 0}};
        for (int[] row : rows) {
            worth("a / b", row[0], row[1], row[2]);
            worth("a % b", row[0], row[1], row[3]);
        }
    }

    /** "WRONG (the process alone, numbered so): 1 / or % by 0" */
    private static void divisionByZero() {
        for (int a : new int[] {0, 1, -1, LEAST, GREATEST}) {
            wrong("a / b", a, 0, 1);
            wrong("a % b", a, 0, 1);
            worth("a / b", a, 1, a);
            worth("a % b", a, 1, 0);
            worth("a / b", a, -1, -a);
            worth("a % b", a, -1, 0);
        }
        wrong("1 + a * (2 - a / (b - 5))", 3, 5, 1);
        EventHall hall = Due.hall("process p(n) { say 7 / n; }");
        hall.start(0, 0, 0, 0, 0);
        hall.start(0, 1, 0, 0, 0);
        hall.run(9);
        Due.is("the process alone", hall.state(7), 1);
        Due.isTrace(hall, 0, 7);
    }

    /** "true is 1, else 0": what is not 0 is true. */
    private static void truths() {
        for (int a : new int[] {1, -1, 2, LEAST, GREATEST}) {
            worth("!a", a, 0, 0);
            worth("!!a", a, 0, 1);
            worth("a && b", a, a, 1);
            worth("a && b", a, 0, 0);
            worth("a && b", 0, a, 0);
            worth("a || b", a, 0, 1);
            worth("a || b", 0, a, 1);
            worth("a || b", a, a, 1);
        }
        worth("!a", 0, 0, 1);
        worth("a && b", 0, 0, 0);
        worth("a || b", 0, 0, 0);
        EventHall hall = Due.hall("process p(n) { if n { say 1; } else { say 2; } while n { n = 0; say 3; } }");
        for (int n : new int[] {0, 1, -1, LEAST}) {
            hall.start(0, n, 0, 0, 0);
        }
        hall.run(100);
        Due.isTrace(hall, 0, 2, 0, 1, 0, 3, 0, 1, 0, 3, 0, 1, 0, 3);
    }

    /** "true is 1, else 0": relations at their bounds. */
    private static void relationsOfTheUtmost() {
        int[] values = {LEAST, LEAST + 1, -1, 0, 1, GREATEST - 1, GREATEST};
        for (int i = 0; i < values.length; i++) {
            for (int k = 0; k < values.length; k++) {
                worth("a < b", values[i], values[k], i < k ? 1 : 0);
                worth("a > b", values[i], values[k], i > k ? 1 : 0);
                worth("a <= b", values[i], values[k], i <= k ? 1 : 0);
                worth("a >= b", values[i], values[k], i >= k ? 1 : 0);
                worth("a == b", values[i], values[k], i == k ? 1 : 0);
                worth("a != b", values[i], values[k], i != k ? 1 : 0);
            }
        }
    }

    /** "&& || reckon the second side just if it is needed": it is not. */
    private static void secondSidesThatAreNotNeeded() {
        worth("a && 1 / b", 0, 0, 0);
        worth("a || 1 / b", 1, 0, 1);
        worth("a || 1 / b", -1, 0, 1);
        worth("a && 1 / b && 1 / b", 0, 0, 0);
        worth("a || 1 / b || 1 / b", LEAST, 0, 1);
        worth("a && 1 / b || 7", 0, 0, 1);
        worth("a || 1 / b && 1 / b", 1, 0, 1);
        worth("a && draw(b)", 0, 0, 0);
        EventHall hall = Due.hall("process p() { say 0 && draw(9); say 1 || draw(9); }");
        hall.start(0, 0, 0, 0, 0);
        hall.run(9);
        Due.is("nothing is drawn", hall.state(9), 1);
    }

    /** "&& || reckon the second side just if it is needed": it is. */
    private static void secondSidesThatAreNeeded() {
        wrong("a && 1 / b", 1, 0, 1);
        wrong("a && 1 / b", -1, 0, 1);
        wrong("a || 1 / b", 0, 0, 1);
        wrong("a && 1 || 1 / b", 0, 0, 1);
        wrong("a || 1 && 1 / b", 0, 0, 1);
        wrong("1 / b && a", 0, 0, 1);
        wrong("1 / b || a", 1, 0, 1);
        EventHall hall = Due.hall("process p() { say 1 && draw(1); say 0 || draw(1); }");
        hall.start(0, 0, 0, 0, 0);
        hall.run(9);
        Due.is("two are drawn", hall.state(9), next(next(1)));
        Due.isTrace(hall, 0, 0, 0, 0);
    }

    /** "now is the TIME": 0 at first, 1,000,000,000 at most. */
    private static void time() {
        EventHall hall = Due.hall("process p() { say now; hold 1; say now; hold 999999999; say now; hold 0; say now; }");
        hall.start(0, 0, 0, 0, 0);
        hall.run(9);
        Due.isTrace(hall, 0, 0, 1, 1, 1_000_000_000, 1_000_000_000, 1_000_000_000, 1_000_000_000);
    }

    /** "me the number of the process": 0 is the first, 299 the last. */
    private static void numbersOfProcesses() {
        EventHall hall = Due.hall("number g; process p() { g = me; }");
        for (int i = 0; i < 300; i++) {
            hall.start(0, 0, 0, 0, 0);
        }
        hall.run(1);
        Due.is("the first", hall.number(0), 0);
        hall.run(299);
        Due.is("the last", hall.number(0), 299);
    }

    private static long next(long seed) {
        return (1_103_515_245L * seed + 12_345L) % 2_147_483_648L;
    }

    /** "the SEED becomes 1,103,515,245 times it and 12,345, modulo 2 to the 31st; it gives that by 256, cut off, modulo n" */
    private static void drawsFromEachSeed() {
        for (int first : new int[] {0, 1, 2, 255, 256, 65_536, GREATEST / 2, GREATEST / 2 + 1, GREATEST - 1, GREATEST}) {
            EventHall hall = Due.hall("process p(n) { say draw(n); say draw(7); say draw(256 * 256 * 128); }");
            hall.seed(first);
            hall.start(0, 1000, 0, 0, 0);
            hall.run(1);
            long seed = next(first);
            Due.is("SEED behind a draw", hall.state(9), seed);
            Due.is("drawn", hall.trace(0, 1), seed / 256 % 1000);
            hall.run(1);
            seed = next(seed);
            Due.is("drawn of 7", hall.trace(1, 1), seed / 256 % 7);
            hall.run(1);
            seed = next(seed);
            Due.is("drawn of all that there are", hall.trace(2, 1), seed / 256);
            Due.is("the SEED", hall.seed(0), seed);
        }
        EventHall hall = Due.hall("process p() { say draw(1000); }");
        hall.seed(0);
        hall.start(0, 0, 0, 0, 0);
        hall.run(1);
        Due.is("12,345 by 256", hall.trace(0, 1), 48);
    }

    /** "draw (n): .. it gives that by 256, cut off, modulo n.": n is 1, or the greatest. */
    private static void drawOfTheLeastAndTheGreatest() {
        for (int seed : new int[] {0, 1, 77, GREATEST}) {
            EventHall hall = Due.hall("process p(a, b) { say draw(a); say draw(b); }");
            hall.seed(seed);
            hall.start(0, 1, GREATEST, 0, 0);
            hall.run(9);
            Due.is("draw(1)", hall.trace(0, 1), 0);
            Due.is("draw of the greatest", hall.trace(1, 1), next(next(seed)) / 256);
        }
    }

    /** "6 draw of less than 1" */
    private static void drawOfLessThanOne() {
        for (int n : new int[] {0, -1, -256, LEAST}) {
            wrong("draw(a)", n, 0, 6);
            wrong("1 + draw(a) * 2", n, 0, 6);
        }
        worth("draw(a)", 1, 0, 0);
        wrong("draw(a / b)", 0, 0, 1);
    }

    /** "units: how many are free, or there": none, and all. */
    private static void unitsOfPlaces() {
        EventHall hall = Due.hall("resource r 99; store s 0 9999; process p() { say units r; say units s; let k = 99;"
                + " while k { seize r; k = k - 1; } put s 9999; say units r; say units s; free r; get s 9998; say units r; say units s; }");
        hall.start(0, 0, 0, 0, 0);
        hall.run(1000);
        Due.isTrace(hall, 0, 99, 0, 0, 0, 0, 0, 9999, 0, 1, 0, 1);
    }

    /** "queue: how many wait (for both, of a store)": none, and all others. */
    private static void queuesOfPlaces() {
        EventHall hall = Due.hall("resource r 1; store s 1 2; process p() { seize r; } process g() { get s 2; } process u() { put s 2; }"
                + " process look() { seize r; say queue r; say queue s; hold 1; say queue r; say queue s; }");
        hall.start(3, 0, 0, 0, 0);
        for (int i = 0; i < 299; i++) {
            hall.start(i % 3, 0, 0, 0, 0);
        }
        hall.run(1000);
        Due.isTrace(hall, 0, 0, 0, 0, 1, 100, 1, 199);
    }

    /** "The SEED becomes s (0 .. 2,147,483,647): what it was." */
    private static void seedWithinItsBounds() {
        EventHall hall = new EventHall();
        Due.is("seed(0)", hall.seed(0), 1);
        Due.is("seed(1)", hall.seed(1), 0);
        Due.is("seed(2,147,483,647)", hall.seed(GREATEST), 1);
        Due.is("seed(2,147,483,646)", hall.seed(GREATEST - 1), GREATEST);
        Due.is("seed(0)", hall.seed(0), GREATEST - 1);
        hall.load();
        Due.is("SEED", hall.state(9), 0);
        hall.seed(GREATEST);
        Due.is("SEED", hall.state(9), GREATEST);
    }

    /** "BAD: another s." Of seed(): it stays then. */
    private static void seedOfAnother() {
        for (int s : new int[] {-1, -2, LEAST, LEAST + 1}) {
            EventHall hall = new EventHall();
            hall.seed(5);
            Due.is("seed(" + s + ")", hall.seed(s), EventHall.BAD);
            Due.is("it stays", hall.seed(6), 5);
            hall.load();
            Due.is("seed(" + s + ") behind load", hall.seed(s), EventHall.BAD);
            Due.is("SEED", hall.state(9), 6);
        }
    }

    /** "A number, by the order in which they are told." */
    private static void numberByItsOrder() {
        EventHall hall = Due.hall("number n1; process p() { n1 = 1; } number n2" + Texts.numbered(", ", "n", 3, 16, "") + "; process q() { "
                + "n2 = 2; n3 = 3; n4 = 4; n5 = 5; n6 = 6; n7 = 7; n8 = 8; n9 = 9; n10 = 10; n11 = 11; n12 = 12; n13 = 13; n14 = 14; n15 = 15; n16 = 16; }");
        hall.start(0, 0, 0, 0, 0);
        hall.start(1, 0, 0, 0, 0);
        hall.run(100);
        for (int i = 0; i < 16; i++) {
            Due.is("number(" + i + ")", hall.number(i), i + 1);
        }
    }

    /** "BAD (here - 2,000,000,000): none such." Of number(). */
    private static void numberOfNoneSuch() {
        for (int count = 0; count <= 16; count++) {
            EventHall hall = Due.hall(Texts.numbered("number ", "n", 1, count, ";"));
            Due.is("number(-1)", hall.number(-1), NO_VALUE);
            Due.is("the first", hall.number(0), count == 0 ? NO_VALUE : 0);
            Due.is("the last", hall.number(count - 1), count == 0 ? NO_VALUE : 0);
            Due.is("none behind the last", hall.number(count), NO_VALUE);
            Due.is("number of the least", hall.number(LEAST), NO_VALUE);
            Due.is("number of the greatest", hall.number(GREATEST), NO_VALUE);
        }
    }

    /** "VALUES are numbers of 32 bits": a number holds each of them, that of BAD too. */
    private static void numberOfTheUtmost() {
        for (int value : new int[] {LEAST, GREATEST, NO_VALUE, NO_VALUE - 1, -1, -2}) {
            worth("a", value, 0, value);
        }
    }

    /** "no one within more than 30 others": with a left side of each sign kept at each depth, behind eight arguments. */
    private static void theDeepestExpression() {
        String deep = "2 < 1 + 1 * (".repeat(30) + "1 < 1 + 1 * 1" + ")".repeat(30);
        EventHall hall = Due.hall("process p(a, b, c, d, e, f, g, h) { start p(1, 2, 3, 4, 5, 6, 7, " + deep + " + 8) " + deep + " + 9; }");
        hall.start(0, 0, 0, 0, 0);
        hall.run(1);
        Due.is("not WRONG", hall.process(0, 5), 0);
        int[] want = {1, 2, 3, 4, 5, 6, 7, 1};
        for (int i = 0; i < want.length; i++) {
            Due.is("argument " + i, hall.process(1, 10 + i), want[i]);
        }
        Due.is("when it goes on", hall.process(1, 2), 1);
    }
}
