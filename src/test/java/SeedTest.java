/** Promise 5: seed, and what draw makes of it. */
public final class SeedTest {
    private SeedTest() {
    }

    public static void main(String[] args) {
        seedAnswersTheOldOne();
        drawsFollowTheRule();
        drawOfLessThanOne();
        Due.close();
    }

    private static void seedAnswersTheOldOne() {
        EventHall hall = new EventHall();
        Due.is("seed(7)", hall.seed(7), 1);
        Due.is("seed(0)", hall.seed(0), 7);
        Due.is("seed(2,147,483,647)", hall.seed(Integer.MAX_VALUE), 0);
        Due.is("seed(-1)", hall.seed(-1), EventHall.BAD);
        Due.is("seed(min)", hall.seed(Integer.MIN_VALUE), EventHall.BAD);
        Due.is("seed(3)", hall.seed(3), Integer.MAX_VALUE);
        hall.load();
        Due.is("SEED", hall.state(9), 3);
    }

    private static void drawsFollowTheRule() {
        long[] seeds = {0, 1, 7, 12_345_678, Integer.MAX_VALUE};
        for (long first : seeds) {
            EventHall hall = Due.hall("process p() { say draw(6); say draw(1000000) + draw(1); say draw(8388608); }");
            hall.seed((int) first);
            hall.start(0, 0, 0, 0, 0);
            hall.run(10);
            long seed = next(first);
            long a = seed / 256 % 6;
            seed = next(seed);
            long b = seed / 256 % 1_000_000;
            seed = next(seed);
            seed = next(seed);
            Due.isTrace(hall, 0, (int) a, 0, (int) b, 0, (int) (seed / 256));
            Due.is("SEED behind the draws", hall.state(9), seed);
            Due.is("seed answers it", hall.seed(5), seed);
        }
    }

    private static long next(long seed) {
        return (1_103_515_245L * seed + 12_345L) % 2_147_483_648L;
    }

    private static void drawOfLessThanOne() {
        for (int n = -1; n <= 0; n++) {
            EventHall hall = Due.hall("process p(n) { say draw(n); }");
            hall.start(0, n, 0, 0, 0);
            Due.is("one step", hall.run(5), 1);
            Due.is("WRONG 6", hall.process(0, 5), 6);
            Due.is("nothing said", hall.state(8), 0);
            Due.is("SEED stays", hall.state(9), 1);
        }
    }
}
