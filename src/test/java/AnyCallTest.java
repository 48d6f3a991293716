import java.util.Random;

/** Any calls with any arguments in any state: none throws, all end, and answers stay within their bounds. */
public final class AnyCallTest {
    private static final String[] PARTS = ("resource store number process let if else while hold seize free put get await"
            + " start stop wake say end now me draw units queue a b c r s p q 0 1 2 3 99 100 9999 123456789 ( ) { } , ; = + - * /"
            + " % < > ! == != <= >= && || & | # $").split(" ");
    private static final String HEAD = "number a, b; resource r 2; store s 1 4; process p(c) { ";
    private static final String TAIL = " } process q() { hold 1; start p(draw(4)) 1; }";
    private static final String[] STATEMENTS = {"a = a + c; ", "b = b / c; ", "seize r c; ", "free r; ", "put s c + 1; ",
        "get s 2; ", "await a % 3 == 0; ", "hold draw(c); ", "start q(); ", "start p(c - 1) a; ", "stop a; ", "wake b; ",
        "say a * b; ", "if a > b { c = 2; } else { a = 0; } ", "while c > 0 { c = c - 1; hold 1; } ", "b = me + now; "};

    private AnyCallTest() {
    }

    public static void main(String[] args) {
        Random random = new Random(20);
        for (int round = 0; round < 300; round++) {
            EventHall hall = new EventHall();
            Due.feed(hall, round % 3 == 0 ? anyTokens(random) : anyStatements(random));
            hall.load();
            for (int call = 0; call < 250; call++) {
                anyCall(hall, random);
            }
            check(hall);
        }
        Due.close();
    }

    private static String anyTokens(Random random) {
        StringBuilder text = new StringBuilder(random.nextBoolean() ? HEAD : "");
        for (int i = random.nextInt(60); i > 0; i--) {
            text.append(PARTS[random.nextInt(PARTS.length)]).append(random.nextInt(9) == 0 ? "" : " ");
        }
        return text.toString();
    }

    private static String anyStatements(Random random) {
        StringBuilder text = new StringBuilder(HEAD);
        for (int i = random.nextInt(20); i > 0; i--) {
            text.append(STATEMENTS[random.nextInt(STATEMENTS.length)]);
        }
        return text.append(TAIL).toString();
    }

    private static int any(Random random) {
        switch (random.nextInt(8)) {
            case 0:
                return random.nextInt();
            case 1:
                return Integer.MAX_VALUE - random.nextInt(12);
            case 2:
                return Integer.MIN_VALUE + random.nextInt(12);
            case 3:
                return random.nextInt(400) - 50;
            default:
                return random.nextInt(20) - 3;
        }
    }

    private static void anyCall(EventHall hall, Random random) {
        int a = any(random);
        int b = any(random);
        switch (random.nextInt(16)) {
            case 0: case 1: case 2:
                hall.start(random.nextInt(3), a, b, any(random), any(random));
                break;
            case 3: case 4:
                hall.run(random.nextBoolean() ? a : 50);
                break;
            case 5:
                hall.turn(random.nextBoolean() ? a : 50);
                break;
            case 6:
                hall.state(a);
                break;
            case 7:
                hall.number(a);
                break;
            case 8: case 9:
                hall.process(a, b);
                break;
            case 10: case 11:
                hall.place(a, b);
                break;
            case 12:
                hall.sum(a, b);
                break;
            case 13:
                hall.trace(a, b);
                break;
            case 14:
                hall.seed(a);
                break;
            default:
                rareCall(hall, random, a, b);
        }
    }

    private static void rareCall(EventHall hall, Random random, int a, int b) {
        switch (random.nextInt(12)) {
            case 0:
                hall.load();
                break;
            case 1:
                Due.feed(hall, anyStatements(random));
                hall.load();
                break;
            case 2:
                hall.end(a);
                break;
            default:
                hall.feed(a, b, a, b, a);
        }
    }

    /** Each process is counted once, and units are either free or had. */
    private static void check(EventHall hall) {
        if (hall.state(0) == EventHall.BAD) {
            Due.isTrue("a fault, if nothing was read", hall.state(11) != 0);
            return;
        }
        int amid = hall.state(10) == EventHall.NONE ? 0 : 1;
        Due.is("processes", hall.state(4) + hall.state(5) + hall.state(6) + hall.state(7) + amid, hall.state(3));
        int had = 0;
        for (int p = 0; p < hall.state(3); p++) {
            had += hall.process(p, 4);
        }
        int units = Math.max(0, hall.place(0, 2));
        Due.is("units", Math.max(0, hall.place(0, 0)) + had, units);
    }
}
