import java.util.Random;

/** No call throws or runs on, whatever it is called with. */
final class AnyCallsTest {
    private static final int[] NUMBERS = {
        Integer.MIN_VALUE, Integer.MIN_VALUE + 1, -1025, -100, -10, -5, -4, -3, -2, -1, 0, 1, 2, 3, 4, 5, 6, 7, 8, 9, 10,
        11, 12, 19, 20, 21, 30, 31, 32, 33, 59, 60, 61, 62, 63, 64, 65, 89, 90, 91, 92, 99, 100, 101, 127, 128, 199, 200,
        201, 255, 256, 257, 511, 512, 513, 1000, 1023, 1024, 1025, 59048, 59049, 65535, 65536, 1 << 30,
        Integer.MAX_VALUE - 1, Integer.MAX_VALUE};
    private static final String[] TEXTS = {
        "field 10 1", "field 1 10", "field 5 2;pond 1 0", "field 2 5;lane 1 0", "field 3 3;yards 1 1 0", "field 1 1",
        "hedge 0 0 left", "pond 0 0", "lane 0 0", "yards 0 0 9", "hurdles 0", "hurdles 60", "want 90", "rest 99",
        "frozen 19", "thaw", "thaw;", "field 10 2", "", "    "};
    private static final int CALLS = 24;

    public static void main(String[] args) {
        for (int run = 0; run < 300; run++) {
            Random random = new Random(run);
            MovedFold fold = new MovedFold();
            int refused = 0;
            for (int call = 0; call < 480; call++) {
                refused += any(fold, random) < -5 ? 1 : 0;
                if (random.nextInt(12) == 0) {
                    fold.erase();
                    Check.write(fold, TEXTS[random.nextInt(TEXTS.length)]);
                    fold.field();
                }
            }
            Check.due("run " + run + ": answers below FULL", refused, 0);
        }
        Check.end();
    }

    private static int number(Random random) {
        return random.nextInt(8) == 0 ? random.nextInt() : NUMBERS[random.nextInt(NUMBERS.length)];
    }

    private static long any(MovedFold fold, Random random) {
        int a = number(random);
        int b = number(random);
        int c = number(random);
        switch (random.nextInt(CALLS)) {
            case 0: return fold.write(random.nextLong(), a);
            case 1: return fold.erase();
            case 2: return fold.fault();
            case 3: return fold.field();
            case 4: return fold.square(a);
            case 5: return fold.hedge(a);
            case 6: return fold.night(a, b);
            case 7: return fold.sides(a);
            case 8: return fold.edges(a);
            case 9: return fold.yards(a);
            case 10: return fold.fold(a);
            case 11: return fold.clear();
            case 12: return fold.judge();
            case 13: return fold.why();
            case 14: return fold.moved(a, b);
            case 15: return fold.few(a, b);
            case 16: return fold.two(a, b, c);
            case 17: return fold.fewest(a);
            case 18: return fold.best(a, b, c);
            case 19: return fold.courses(a, b);
            case 20: return fold.round(a);
            case 21: return fold.broken(a, b);
            case 22: return fold.goes(c > 0, a, b);
            default: return fold.count(a);
        }
    }
}
