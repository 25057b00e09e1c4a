import java.util.ArrayList;
import java.util.Arrays;
import java.util.List;
import java.util.Map;
import java.util.TreeMap;
import java.util.TreeSet;
import java.util.regex.Matcher;
import java.util.regex.Pattern;

/**
 * The document written a second time, slowly: by regular expressions, coordinates and trying everything.
 * It shares no thought with the class, so that one fault is not made twice.
 */
final class Model {
    static final int NONE = -1, UNKNOWN = -2, OUTSIDE = -3, NOT = -4, FULL = -5;
    private static final Pattern TOKEN = Pattern.compile("[a-z]+|[0-9]+|[^ ]", Pattern.DOTALL);
    private static final Map<String, int[]> STEPS = Map.of(
        "left", new int[] {-1, 0}, "right", new int[] {1, 0}, "up", new int[] {0, -1}, "down", new int[] {0, 1});

    String text = "";
    int w = 1;
    int h = 1;
    int[][] kind = {{1}};
    /** Hedges by their middles, in half squares: "x,y". */
    TreeSet<String> hedges = new TreeSet<>();
    int hurdles = 60;
    List<Integer> wants = new ArrayList<>();
    int rest = 0;
    TreeSet<Integer> frozen = new TreeSet<>();
    List<Integer> row = new ArrayList<>();

    // ---- the field

    int write(long bytes, int n) {
        if (n < 1 || n > 8) {
            return OUTSIDE;
        }
        if (text.length() + n > 200) {
            return FULL;
        }
        for (int i = 0; i < n; i++) {
            text += (char) (bytes >>> (8 * i) & 0xff);
        }
        return text.length();
    }

    int erase() {
        int had = text.length();
        text = "";
        return had;
    }

    /** The text is tried line by line on a copy of the field. */
    int fault() {
        return go(false);
    }

    int field() {
        if (go(false) != NONE) {
            return NOT;
        }
        int lines = text.split(";").length;
        go(true);
        text = "";
        return lines;
    }

    private int go(boolean really) {
        List<String> tokens = new ArrayList<>();
        List<Integer> places = new ArrayList<>();
        Matcher matcher = TOKEN.matcher(text);
        while (matcher.find()) {
            tokens.add(matcher.group());
            places.add(matcher.start());
        }
        tokens.add("");
        places.add(text.length());
        int wide = w;
        int high = h;
        int at = 0;
        for (int line = 1; ; line++) {
            String verb = tokens.get(at);
            int from = at;
            String[] parts = partsOf(verb);
            if (parts == null) {
                return places.get(at);
            }
            at++;
            for (String part : parts) {
                int high1 = part.equals("W") ? 10 : part.equals("X") ? wide - 1 : part.equals("Y") ? high - 1 : -1;
                if (part.equals("H")) {
                    high1 = 10 / Integer.parseInt(tokens.get(at - 1));
                }
                if (!fits(tokens.get(at), part, high1)) {
                    return places.get(at);
                }
                at++;
            }
            if (verb.equals("field")) {
                wide = Integer.parseInt(tokens.get(from + 1));
                high = Integer.parseInt(tokens.get(from + 2));
            }
            if (really) {
                perform(tokens.subList(from, at));
            }
            if (tokens.get(at).isEmpty()) {
                return NONE;
            }
            if (!tokens.get(at).equals(";") || line == 10) {
                return places.get(at);
            }
            at++;
        }
    }

    private static String[] partsOf(String verb) {
        switch (verb) {
            case "field": return new String[] {"W", "H"};
            case "yards": return new String[] {"X", "Y", "9"};
            case "pond": case "lane": return new String[] {"X", "Y"};
            case "hedge": case "open": return new String[] {"X", "Y", "D"};
            case "hurdles": return new String[] {"60"};
            case "want": return new String[] {"90"};
            case "rest": return new String[] {"99"};
            case "frozen": return new String[] {"19"};
            case "thaw": return new String[0];
            default: return null;
        }
    }

    private static boolean fits(String token, String part, int high) {
        if (part.equals("D")) {
            return STEPS.containsKey(token);
        }
        if (!token.matches("[0-9]{1,2}")) {
            return false;
        }
        int value = Integer.parseInt(token);
        int low = part.equals("W") || part.equals("H") ? 1 : 0;
        int top = high >= 0 || "WHXY".contains(part) ? high : Integer.parseInt(part);
        return value >= low && value <= top;
    }

    private void perform(List<String> line) {
        int[] n = new int[3];
        for (int i = 1; i < line.size(); i++) {
            n[i - 1] = line.get(i).matches("[0-9]+") ? Integer.parseInt(line.get(i)) : 0;
        }
        switch (line.get(0)) {
            case "field":
                w = n[0];
                h = n[1];
                kind = new int[h][w];
                for (int[] r : kind) {
                    Arrays.fill(r, 1);
                }
                hedges.clear();
                row.clear();
                break;
            case "yards": kind[n[1]][n[0]] = n[2]; break;
            case "pond": kind[n[1]][n[0]] = 10; break;
            case "lane": kind[n[1]][n[0]] = 11; break;
            case "hedge": hedges.add(middle(n[0], n[1], STEPS.get(line.get(3)))); break;
            case "open": hedges.remove(middle(n[0], n[1], STEPS.get(line.get(3)))); break;
            case "hurdles": hurdles = n[0]; break;
            case "want":
                if (wants.size() < 7) {
                    wants.add(n[0]);
                }
                break;
            case "rest": rest = n[0]; break;
            case "frozen": frozen.add(n[0]); break;
            default:
                frozen.clear();
                wants.clear();
                break;
        }
    }

    private static String middle(int x, int y, int[] step) {
        return (2 * x + 1 + step[0]) + "," + (2 * y + 1 + step[1]);
    }

    int square(int square) {
        return square < 0 || square >= w * h ? UNKNOWN : kind[square / w][square % w];
    }

    /** All edges' middles, in the order of their numbers. */
    List<int[]> middles() {
        List<int[]> all = new ArrayList<>();
        for (int y = 0; y < h; y++) {
            for (int x = 0; x <= w; x++) {
                all.add(new int[] {2 * x, 2 * y + 1});
            }
        }
        for (int y = 0; y <= h; y++) {
            for (int x = 0; x < w; x++) {
                all.add(new int[] {2 * x + 1, 2 * y});
            }
        }
        return all;
    }

    int hedge(int edge) {
        List<int[]> all = middles();
        return edge < 0 || edge >= all.size() ? UNKNOWN
            : hedges.contains(all.get(edge)[0] + "," + all.get(edge)[1]) ? 1 : 0;
    }

    int night(int night, int what) {
        if (night < 0 || night > 19) {
            return UNKNOWN;
        }
        if (what != 0 && what != 1) {
            return OUTSIDE;
        }
        return what == 1 ? (frozen.contains(night) ? 1 : 0) : wants.isEmpty() ? 1 : wants.get(night % wants.size());
    }

    // ---- folds

    private boolean in(int set, int x, int y) {
        return x >= 0 && y >= 0 && x < w && y < h && (set >> (w * y + x) & 1) == 1;
    }

    boolean isSet(int set) {
        return set >= 0 && set < Math.pow(2, w * h);
    }

    boolean isFold(int set) {
        int members = 0;
        int start = -1;
        for (int s = 0; s < w * h; s++) {
            if ((set >> s & 1) == 1) {
                members++;
                start = s;
                if (square(s) >= 10) {
                    return false;
                }
            }
        }
        if (members == 0) {
            return false;
        }
        boolean[] seen = new boolean[w * h];
        spread(set, start % w, start / w, seen);
        int reached = 0;
        for (boolean s : seen) {
            reached += s ? 1 : 0;
        }
        return reached == members;
    }

    private void spread(int set, int x, int y, boolean[] seen) {
        if (!in(set, x, y) || seen[w * y + x]) {
            return;
        }
        seen[w * y + x] = true;
        for (int[] step : STEPS.values()) {
            spread(set, x + step[0], y + step[1], seen);
        }
    }

    /** Numbers of the edges on which a fold needs a hurdle. */
    TreeSet<Integer> needs(int fold) {
        TreeSet<Integer> needed = new TreeSet<>();
        List<int[]> all = middles();
        for (int e = 0; e < all.size(); e++) {
            int mx = all.get(e)[0];
            int my = all.get(e)[1];
            int ax = mx % 2 == 0 ? mx / 2 - 1 : mx / 2;
            int ay = my % 2 == 0 ? my / 2 - 1 : my / 2;
            int bx = mx / 2;
            int by = my / 2;
            boolean a = in(fold, ax, ay);
            boolean b = in(fold, bx, by);
            if (a != b && !hedges.contains(mx + "," + my)) {
                int ox = a ? bx : ax;
                int oy = a ? by : ay;
                boolean pond = ox >= 0 && oy >= 0 && ox < w && oy < h && kind[oy][ox] == 10;
                if (!pond) {
                    needed.add(e);
                }
            }
        }
        return needed;
    }

    int sides(int fold) {
        return !isSet(fold) ? OUTSIDE : isFold(fold) ? needs(fold).size() : NONE;
    }

    long edges(int fold) {
        if (!isSet(fold)) {
            return OUTSIDE;
        }
        long bits = 0;
        if (isFold(fold)) {
            for (int e : needs(fold)) {
                bits |= 1L << e;
            }
        }
        return bits;
    }

    int yards(int set) {
        if (!isSet(set)) {
            return OUTSIDE;
        }
        int sum = 0;
        for (int s = 0; s < w * h; s++) {
            if ((set >> s & 1) == 1 && square(s) < 10) {
                sum += square(s);
            }
        }
        return sum;
    }

    int fold(int fold) {
        if (!isSet(fold)) {
            return OUTSIDE;
        }
        if (row.size() == 20) {
            return FULL;
        }
        row.add(fold);
        return row.size();
    }

    int clear() {
        int had = row.size();
        row.clear();
        return had;
    }

    int judge() {
        for (int i = 0; i < row.size(); i++) {
            if (reason(i) != NONE) {
                return i;
            }
        }
        return NONE;
    }

    int why() {
        return judge() == NONE ? NONE : reason(judge());
    }

    private int reason(int i) {
        int fold = row.get(i);
        if (!isFold(fold)) {
            return 0;
        }
        if (sides(fold) > hurdles) {
            return 1;
        }
        if (yards(fold) < night(i, 0)) {
            return 2;
        }
        if (i > 0 && frozen.contains(i)) {
            return fold != row.get(i - 1) ? 3 : NONE;
        }
        if (i > 0 && !beside(fold & ~row.get(i - 1), row.get(i - 1) & ~fold)) {
            return 4;
        }
        for (int back = 1; back <= i && (rest == 0 || back <= rest); back++) {
            if ((row.get(i - back) & fold) != 0) {
                return 5;
            }
        }
        return NONE;
    }

    private boolean beside(int one, int other) {
        for (int s = 0; s < w * h; s++) {
            for (int[] step : STEPS.values()) {
                if ((one >> s & 1) == 1 && in(other, s % w + step[0], s / w + step[1])) {
                    return true;
                }
            }
        }
        return false;
    }

    int lifted(int fold, int ahead) {
        TreeSet<Integer> up = needs(fold);
        if (ahead != 0) {
            up.removeAll(needs(ahead));
        }
        return up.size();
    }

    int moved(int night, int what) {
        if (night < 0 || night >= row.size()) {
            return UNKNOWN;
        }
        if (what != 0 && what != 1) {
            return OUTSIDE;
        }
        int fold = row.get(night);
        if (!isFold(fold) || night > 0 && !isFold(row.get(night - 1))) {
            return NONE;
        }
        int ahead = night == 0 ? 0 : row.get(night - 1);
        return what == 0 ? lifted(fold, ahead) : carried(fold, ahead);
    }

    /** All ways to give hurdles are tried, by the sets of edges that have been taken from. */
    private int carried(int fold, int ahead) {
        TreeSet<Integer> to = needs(fold);
        TreeSet<Integer> from = ahead == 0 ? new TreeSet<>() : needs(ahead);
        TreeSet<Integer> both = new TreeSet<>(to);
        both.retainAll(from);
        to.removeAll(both);
        from.removeAll(both);
        List<Integer> sources = new ArrayList<>(from);
        List<int[]> all = middles();
        Map<Integer, Integer> costs = new TreeMap<>();
        costs.put(0, 0);
        for (int e : to) {
            Map<Integer, Integer> next = new TreeMap<>();
            int[] p = all.get(e);
            for (Map.Entry<Integer, Integer> entry : costs.entrySet()) {
                next.merge(entry.getKey(), entry.getValue() + p[0] + p[1], Math::min);
                for (int i = 0; i < sources.size(); i++) {
                    if ((entry.getKey() >> i & 1) == 0) {
                        int[] q = all.get(sources.get(i));
                        int far = Math.abs(p[0] - q[0]) + Math.abs(p[1] - q[1]);
                        next.merge(entry.getKey() | 1 << i, entry.getValue() + far, Math::min);
                    }
                }
            }
            costs = next;
        }
        int least = Integer.MAX_VALUE;
        for (int cost : costs.values()) {
            least = Math.min(least, cost);
        }
        return least;
    }

    // ---- the fewest

    List<Integer> allFolds() {
        List<Integer> folds = new ArrayList<>();
        for (int set = 1; isSet(set); set++) {
            if (isFold(set)) {
                folds.add(set);
            }
        }
        return folds;
    }

    int few(int n, int what) {
        if (n < 0 || n > 90 || what < 0 || what > 1) {
            return OUTSIDE;
        }
        int best = NONE;
        for (int fold : allFolds()) {
            if (yards(fold) >= n && (best == NONE || sides(fold) < sides(best))) {
                best = fold;
            }
        }
        return best == NONE ? NONE : what == 0 ? best : sides(best);
    }

    int two(int a, int b, int what) {
        if (a < 0 || a > 90 || b < 0 || b > 90 || what < 0 || what > 2) {
            return OUTSIDE;
        }
        int[] best = {NONE, NONE, NONE};
        List<Integer> folds = allFolds();
        Map<Integer, TreeSet<Integer>> needs = new TreeMap<>();
        for (int fold : folds) {
            needs.put(fold, needs(fold));
        }
        for (int one : folds) {
            for (int other : folds) {
                if ((one & other) == 0 && yards(one) >= a && yards(other) >= b) {
                    TreeSet<Integer> both = new TreeSet<>(needs.get(one));
                    both.addAll(needs.get(other));
                    if (best[2] == NONE || both.size() < best[2]) {
                        best = new int[] {one, other, both.size()};
                    }
                }
            }
        }
        return best[what];
    }

    /** All courses with some yards, for any hurdles: what each needs at most, lifts, and its folds. */
    static final class Course {
        final int most;
        final int lifted;
        final List<Integer> folds;

        Course(int most, int lifted, List<Integer> folds) {
            this.most = most;
            this.lifted = lifted;
            this.folds = folds;
        }
    }

    private final Map<Integer, List<Course>> kept = new TreeMap<>();
    private List<Course> found;
    private List<Integer> trying;
    private Map<Integer, Integer> sidesOf;
    private int[][] liftedOf;
    private boolean[][] besideOf;
    private int[] yardsOf;

    /** Courses come out in the document's order: by folds' numbers, a beginning ahead of what goes on. */
    List<Course> courseList(int wanted) {
        found = kept.get(wanted);
        if (found != null) {
            return found;
        }
        found = new ArrayList<>();
        kept.put(wanted, found);
        trying = allFolds();
        int n = trying.size();
        liftedOf = new int[n][n];
        besideOf = new boolean[n][n];
        sidesOf = new TreeMap<>();
        yardsOf = new int[n];
        List<TreeSet<Integer>> needs = new ArrayList<>();
        for (int i = 0; i < n; i++) {
            sidesOf.put(i, sides(trying.get(i)));
            yardsOf[i] = yards(trying.get(i));
            needs.add(needs(trying.get(i)));
        }
        for (int i = 0; i < n; i++) {
            for (int j = 0; j < n; j++) {
                if ((trying.get(i) & trying.get(j)) == 0) {
                    besideOf[i][j] = beside(trying.get(i), trying.get(j));
                    TreeSet<Integer> up = new TreeSet<>(needs.get(j));
                    up.removeAll(needs.get(i));
                    liftedOf[i][j] = up.size();
                }
            }
        }
        int need = 0;
        for (int s = 0; s < w * h; s++) {
            need |= square(s) > 0 && square(s) < 10 ? 1 << s : 0;
        }
        extend(wanted, need, 0, new ArrayList<>(), 0, 0);
        return found;
    }

    private void extend(int wanted, int need, int had, List<Integer> row, int most, int lifted) {
        if (!row.isEmpty()) {
            if ((need & ~had) == 0) {
                List<Integer> folds = new ArrayList<>();
                for (int i : row) {
                    folds.add(trying.get(i));
                }
                found.add(new Course(most, lifted, folds));
            }
            if (yardsOf[row.get(row.size() - 1)] < wanted) {
                return;
            }
        }
        for (int j = 0; j < trying.size(); j++) {
            if ((trying.get(j) & had) != 0) {
                continue;
            }
            int more = sidesOf.get(j);
            if (!row.isEmpty()) {
                int last = row.get(row.size() - 1);
                if (!besideOf[last][j]) {
                    continue;
                }
                more = liftedOf[last][j];
            }
            row.add(j);
            extend(wanted, need, had | trying.get(j), row, Math.max(most, sidesOf.get(j)), lifted + more);
            row.remove(row.size() - 1);
        }
    }

    void forgetCourses() {
        kept.clear();
    }

    int fewest(int w) {
        if (w < 1 || w > 90) {
            return OUTSIDE;
        }
        int least = NONE;
        for (Course course : courseList(w)) {
            least = least == NONE ? course.most : Math.min(least, course.most);
        }
        return least;
    }

    private Course bestCourse(int w, int n) {
        Course best = null;
        for (Course course : courseList(w)) {
            if (course.most <= n && (best == null || course.lifted < best.lifted)) {
                best = course;
            }
        }
        return best;
    }

    int best(int w, int n, int i) {
        if (w < 1 || w > 90 || n < 0 || n > 60 || i < -2) {
            return OUTSIDE;
        }
        Course best = bestCourse(w, n);
        if (best == null) {
            return NONE;
        }
        return i == -2 ? best.lifted : i == -1 ? best.folds.size() : i < best.folds.size() ? best.folds.get(i) : NONE;
    }

    int courses(int w, int n) {
        if (w < 1 || w > 90 || n < 0 || n > 60) {
            return OUTSIDE;
        }
        long many = 0;
        for (Course course : courseList(w)) {
            many += course.most <= n ? 1 : 0;
        }
        return (int) (many % 1000000007L);
    }

    int round(int w) {
        if (w < 1 || w > 90) {
            return OUTSIDE;
        }
        Model plain = new Model();
        plain.w = this.w;
        plain.h = h;
        plain.hedges = hedges;
        plain.kind = new int[h][this.w];
        for (int y = 0; y < h; y++) {
            for (int x = 0; x < this.w; x++) {
                plain.kind[y][x] = kind[y][x] >= 10 ? 0 : kind[y][x];
            }
        }
        int with = fewest(w);
        int without = plain.fewest(w);
        return with == NONE || without == NONE ? NONE : 100 + with - without;
    }

    int broken(int w, int n) {
        if (w < 1 || w > 90 || n < 1 || n > 60) {
            return OUTSIDE;
        }
        Course whole = bestCourse(w, n);
        Course less = bestCourse(w, n - 1);
        return whole == null || less == null ? NONE : less.lifted - whole.lifted;
    }

    int goes(boolean snail, int k, int what) {
        if (k < 1 || k > 10 || what < 0 || what > 1) {
            return OUTSIDE;
        }
        List<Integer> way = snail ? snail() : strip();
        int most = 0;
        int all = 0;
        int ahead = 0;
        int fold = 0;
        for (int i = 0; i < way.size(); i++) {
            fold |= 1 << way.get(i);
            if ((i + 1) % k == 0 || i + 1 == way.size()) {
                if (!isFold(fold)) {
                    return NONE;
                }
                most = Math.max(most, sides(fold));
                all += lifted(fold, ahead);
                ahead = fold;
                fold = 0;
            }
        }
        return what == 0 ? most : all;
    }

    private List<Integer> strip() {
        List<Integer> way = new ArrayList<>();
        for (int x = 0; x < w; x++) {
            for (int y = 0; y < h; y++) {
                way.add(x % 2 == 1 ? w * (h - 1 - y) + x : w * y + x);
            }
        }
        return way;
    }

    /** One goes on as far as one can, then turns right. */
    private List<Integer> snail() {
        List<Integer> way = new ArrayList<>();
        int[][] turns = {{1, 0}, {0, 1}, {-1, 0}, {0, -1}};
        int x = 0;
        int y = 0;
        int turn = 0;
        way.add(0);
        while (way.size() < w * h) {
            int nx = x + turns[turn][0];
            int ny = y + turns[turn][1];
            if (nx < 0 || ny < 0 || nx >= w || ny >= h || way.contains(w * ny + nx)) {
                turn = (turn + 1) % 4;
            } else {
                x = nx;
                y = ny;
                way.add(w * y + x);
            }
        }
        return way;
    }

    int count(int what) {
        int[] counts = {w * h, w, middles().size(), text.length(), row.size(), hurdles, rest, wants.size()};
        return what < 0 || what > 7 ? OUTSIDE : counts[what];
    }
}
