import java.util.Random;

/** Long runs of calls, drawn from fixed seeds, answered alike by the class and by the slow model. */
final class ModelTest {
    private static final int RUNS = 400;
    private static final int CALLS = 512;
    private static final String[] VERBS = {
        "field", "yards", "pond", "lane", "hedge", "open", "hurdles", "want", "rest", "frozen", "thaw"};
    private static final String[] SIDES = {"left", "right", "up", "down"};
    private static final int[][] SIZES = {
        {1, 1}, {2, 1}, {1, 2}, {3, 1}, {2, 2}, {1, 4}, {5, 1}, {3, 2}, {2, 3}, {7, 1}, {4, 2}, {2, 4}, {3, 3},
        {1, 9}, {5, 2}, {2, 5}, {10, 1}, {1, 10}};

    private final Random random;
    private final MovedFold fold = new MovedFold();
    private final Model model = new Model();
    private int calls = 0;

    private ModelTest(long seed) {
        random = new Random(seed);
    }

    public static void main(String[] args) {
        for (int[] size : SIZES) {
            new ModelTest(0).goOver(size);
        }
        for (int run = 0; run < RUNS && Check.wrongSoFar() == 0; run++) {
            new ModelTest(1000L + run).go(run);
        }
        Check.end();
    }

    /** Each field as it is laid, by all courses that there are; a fresh object each time, as 512 calls are promised. */
    private void goOver(int[] size) {
        String text = "field " + size[0] + " " + size[1];
        tell(0, text);
        for (int n = 0; n <= 24; n++) {
            MovedFold fresh = Check.told(text);
            for (int w = 1; w <= 11; w += 1 + w / 3) {
                String told = "(" + w + ", " + n + ") in " + size[0] + " by " + size[1];
                Check.due("courses" + told, fresh.courses(w, n), model.courses(w, n));
                Check.due("broken" + told, fresh.broken(w, n), model.broken(w, n));
                for (int i = -2; i <= 10; i++) {
                    Check.due("best" + told + " " + i, fresh.best(w, n, i), model.best(w, n, i));
                }
            }
        }
    }

    private int draw(int low, int high) {
        return low + random.nextInt(high - low + 1);
    }

    private boolean chance(int percent) {
        return random.nextInt(100) < percent;
    }

    private void same(int run, String call, long got, long want) {
        calls++;
        Check.due("run " + run + ", call " + calls + " " + call, got, want);
    }

    private void go(int run) {
        layField(run, SIZES[run % SIZES.length]);
        while (calls < CALLS - 40) {
            int kind = draw(0, 99);
            if (kind < 4) {
                tell(run, lineText(false));
            } else if (kind < 12) {
                tell(run, lineText(true));
            } else if (kind < 30) {
                askField(run);
            } else if (kind < 75) {
                askFolds(run);
            } else {
                askFewest(run);
            }
        }
    }

    private void layField(int run, int[] size) {
        StringBuilder text = new StringBuilder("field " + size[0] + " " + size[1]);
        for (int i = draw(0, 6); i > 0; i--) {
            text.append(";").append(line(size[0], size[1], draw(1, 5)));
        }
        tell(run, text.toString());
    }

    private String line(int w, int h, int verb) {
        String place = " " + draw(0, w - 1) + " " + draw(0, h - 1);
        switch (verb) {
            case 0:
                int[] size = SIZES[draw(0, SIZES.length - 1)];
                return "field " + size[0] + " " + size[1];
            case 1: return "yards" + place + " " + draw(0, chance(50) ? 3 : 9);
            case 2: case 3: return VERBS[verb] + place;
            case 4: case 5: return VERBS[verb] + place + " " + SIDES[draw(0, 3)];
            case 6: return "hurdles " + draw(0, chance(70) ? 14 : 60);
            case 7: return "want " + draw(0, chance(80) ? 3 : 90);
            case 8: return "rest " + draw(0, chance(80) ? 3 : 99);
            case 9: return "frozen " + draw(0, 19);
            default: return "thaw";
        }
    }

    private String lineText(boolean right) {
        StringBuilder text = new StringBuilder();
        int lines = right ? draw(1, 4) : draw(0, 12);
        for (int i = 0; i < lines; i++) {
            text.append(i == 0 ? "" : chance(20) ? " ; " : ";");
            text.append(line(model.w, model.h, draw(chance(4) ? 0 : 1, 10)));
        }
        if (right) {
            return text.toString();
        }
        for (int i = draw(0, 3); i > 0; i--) {
            int at = draw(0, text.length());
            switch (draw(0, 5)) {
                case 0: text.insert(at, " "); break;
                case 1: text.insert(at, (char) draw(0, 255)); break;
                case 2: text.insert(at, draw(0, 99)); break;
                case 3: text.insert(at, ";"); break;
                case 4: text.insert(at, (char) draw('a', 'z')); break;
                default:
                    if (at < text.length()) {
                        text.deleteCharAt(at);
                    }
                    break;
            }
        }
        return text.toString();
    }

    private void tell(int run, String text) {
        for (int from = 0; from < text.length(); ) {
            int n = Math.min(text.length() - from, draw(1, 8));
            n = chance(80) ? Math.min(8, text.length() - from) : n;
            long bytes = random.nextLong();
            if (n < 8) {
                bytes = bytes << (8 * n);
            } else {
                bytes = 0;
            }
            for (int i = 0; i < n; i++) {
                bytes |= (long) (text.charAt(from + i) & 255) << (8 * i);
            }
            same(run, "write(" + bytes + ", " + n + ")", fold.write(bytes, n), model.write(bytes, n));
            from += n;
        }
        same(run, "fault() of " + model.text, fold.fault(), model.fault());
        String now = model.text;
        int lines = model.field();
        same(run, "field() of " + now, fold.field(), lines);
        if (lines == Model.NOT) {
            same(run, "erase()", fold.erase(), model.erase());
        } else {
            model.forgetCourses();
        }
    }

    private int set() {
        int all = (1 << (model.w * model.h)) - 1;
        return chance(95) ? draw(0, all) : chance(50) ? draw(-2, 1024) : random.nextInt();
    }

    /** A fold more often than chance would have it. */
    private int likelyFold() {
        int set = set();
        for (int i = 0; i < 20 && !(model.isSet(set) && model.isFold(set)) && chance(95); i++) {
            set = set();
        }
        return set;
    }

    private void askField(int run) {
        int n = draw(-1, 11);
        int e = draw(-1, 32);
        int night = draw(-1, 20);
        int what = draw(-1, 2);
        same(run, "square(" + n + ")", fold.square(n), model.square(n));
        same(run, "hedge(" + e + ")", fold.hedge(e), model.hedge(e));
        same(run, "night(" + night + ", " + what + ")", fold.night(night, what), model.night(night, what));
        same(run, "count(" + (n - 1) + ")", fold.count(n - 1), model.count(n - 1));
    }

    private void askFolds(int run) {
        int set = likelyFold();
        same(run, "sides(" + set + ")", fold.sides(set), model.sides(set));
        same(run, "edges(" + set + ")", fold.edges(set), model.edges(set));
        same(run, "yards(" + set + ")", fold.yards(set), model.yards(set));
        if (chance(3) || model.judge() != Model.NONE && chance(50)) {
            same(run, "clear()", fold.clear(), model.clear());
        }
        int last = model.row.isEmpty() ? 0 : model.row.get(model.row.size() - 1);
        int next = chance(15) ? last : set;
        if (chance(60)) {
            next = model.row.isEmpty() ? 1 << draw(0, model.w * model.h - 1) : 1 << draw(0, model.w * model.h - 1);
        }
        same(run, "fold(" + next + ")", fold.fold(next), model.fold(next));
        same(run, "judge()", fold.judge(), model.judge());
        same(run, "why()", fold.why(), model.why());
        int night = chance(80) ? model.row.size() - 1 : draw(-1, 20);
        int what = chance(90) ? draw(0, 1) : draw(-1, 2);
        same(run, "moved(" + night + ", " + what + ") of " + model.row, fold.moved(night, what),
            model.moved(night, what));
    }

    private void askFewest(int run) {
        int w = chance(90) ? draw(1, 4) : draw(-1, 92);
        int n = chance(80) ? draw(2, 14) : draw(-1, 62);
        int what = chance(90) ? draw(0, 1) : draw(-1, 3);
        int k = draw(0, 11);
        boolean snail = chance(50);
        same(run, "few(" + w + ", " + what + ")", fold.few(w, what), model.few(w, what));
        same(run, "goes(" + snail + ", " + k + ", " + what + ")", fold.goes(snail, k, what), model.goes(snail, k, what));
        if (model.w * model.h > 8 && chance(70)) {
            return;
        }
        what = chance(95) ? draw(0, 2) : draw(-1, 4);
        int b = draw(0, 4);
        same(run, "two(" + w + ", " + b + ", " + what + ")", fold.two(w, b, what), model.two(w, b, what));
        askCourses(run, w, n);
    }

    /** Only where a field has few courses enough to be written out. */
    private void askCourses(int run, int w, int n) {
        if (model.w > 1 && model.h > 1 && model.w * model.h > 8 && w > 0 && w < 2) {
            return;
        }
        String told = "(" + w + ", " + n + ")";
        same(run, "fewest" + told, fold.fewest(w), model.fewest(w));
        same(run, "courses" + told, fold.courses(w, n), model.courses(w, n));
        for (int i = -3; i <= 2; i++) {
            same(run, "best" + told + " " + i, fold.best(w, n, i), model.best(w, n, i));
        }
        same(run, "broken" + told, fold.broken(w, n), model.broken(w, n));
        same(run, "round" + told, fold.round(w), model.round(w));
    }
}
