import java.util.Arrays;

/**
 * A field of squares on which a fold of hurdles is moved each morning.
 * What each call answers is told in the project's document, promise by promise.
 */
public final class MovedFold {
    public static final int NONE = -1, UNKNOWN = -2, OUTSIDE = -3, NOT = -4, FULL = -5;

    private static final int SQUARES = 10, SETS = 1 << SQUARES, EDGES = 31;
    private static final int TEXT_BYTES = 200, WRITE_BYTES = 8, LINES = 10;
    private static final int NIGHTS = 20, WANTS = 7;
    private static final int MOST_HURDLES = 60, MOST_YARDS = 90, MOST_REST = 99;
    private static final int POND_SQUARE = 10, LANE_SQUARE = 11;

    private static final int FIELD = 0, YARDS = 1, POND = 2, LANE = 3, HEDGE = 4, OPEN = 5;
    private static final int HURDLES = 6, WANT = 7, REST = 8, FROZEN = 9, THAW = 10, VERBS = 11;
    private static final int LEFT = 0, RIGHT = 1, UP = 2, DOWN = 3, DIRECTIONS = 4;
    private static final int END = 0, WORD = 1, NUMBER = 2, OTHER = 3;
    private static final int BLANK = 32, BETWEEN_LINES = 59;

    private static final int NO_FOLD = 0, TOO_MANY = 1, TOO_FEW = 2, FROZEN_MOVED = 3, NOT_BESIDE = 4, NOT_FRESH = 5;

    private static final int FEWEST_NEEDED = 0, FEWEST_LIFTED = 1, HOW_MANY = 2;
    private static final int FAR = 1 << 20, MODULUS = 1000000007;
    private static final int EVEN = 100;
    /** Folds next to what is had: in a field of 5 by 2 they are 4025 in all, in others fewer. */
    private static final int MOST_STEPS = 4096;

    private final Text text;
    private final Reader reader;
    private final Ground ground;
    private final FoldTable folds;
    private final FoldTable plainFolds;
    private final FoldRow row;
    private final Carrying carrying;
    private final Pair pair;
    private final Walk walk;
    private final Courses gone;
    private final Courses plainGone;
    private boolean plainKnown;

    public MovedFold() {
        text = new Text();
        reader = new Reader(text);
        ground = new Ground();
        folds = new FoldTable();
        plainFolds = new FoldTable();
        row = new FoldRow();
        carrying = new Carrying();
        pair = new Pair();
        walk = new Walk();
        Steps steps = new Steps();
        gone = new Courses(folds, steps);
        plainGone = new Courses(plainFolds, steps);
        lookAgain();
    }

    /** What was worked out for the field as it was holds no more. */
    private void lookAgain() {
        folds.build(ground, false);
        gone.forget();
        plainKnown = false;
    }

    /** The field with squares of 0 yards for ponds and lanes is worked out only when it is asked for. */
    private void knowPlain() {
        if (!plainKnown) {
            plainFolds.build(ground, true);
            plainGone.forget();
            plainKnown = true;
        }
    }

    // ---- the field

    public int write(long bytes, int n) {
        if (n < 1 || n > WRITE_BYTES) {
            return OUTSIDE;
        }
        if (text.length + n > TEXT_BYTES) {
            return FULL;
        }
        for (int i = 0; i < n; i++) {
            text.put((int) (bytes >> (8 * i)) & 255);
        }
        return text.length;
    }

    public int erase() {
        int had = text.length;
        text.length = 0;
        return had;
    }

    public int fault() {
        return reader.read(ground.columns, ground.rows);
    }

    public int field() {
        if (reader.read(ground.columns, ground.rows) != NONE) {
            return NOT;
        }
        for (int line = 0; line < reader.lines; line++) {
            ground.tell(reader.verbs[line], reader.firsts[line], reader.seconds[line], reader.thirds[line]);
            if (reader.verbs[line] == FIELD) {
                row.nights = 0;
            }
        }
        text.length = 0;
        lookAgain();
        return reader.lines;
    }

    public int square(int square) {
        return square < 0 || square >= ground.squares() ? UNKNOWN : ground.kinds[square];
    }

    public int hedge(int edge) {
        return edge < 0 || edge >= ground.edgeCount() ? UNKNOWN : ground.hedges >> edge & 1;
    }

    public int night(int night, int what) {
        if (night < 0 || night >= NIGHTS) {
            return UNKNOWN;
        }
        if (what < 0 || what > 1) {
            return OUTSIDE;
        }
        return what == 0 ? ground.wantOf(night) : ground.frozen >> night & 1;
    }

    // ---- folds

    public int sides(int fold) {
        return folds.knows(fold) ? folds.sideCounts[fold] : OUTSIDE;
    }

    public long edges(int fold) {
        return folds.knows(fold) ? folds.needs[fold] : OUTSIDE;
    }

    public int yards(int set) {
        return folds.knows(set) ? folds.yardSums[set] : OUTSIDE;
    }

    public int fold(int fold) {
        if (!folds.knows(fold)) {
            return OUTSIDE;
        }
        if (row.nights >= NIGHTS) {
            return FULL;
        }
        row.put(fold);
        return row.nights;
    }

    public int clear() {
        int had = row.nights;
        row.nights = 0;
        return had;
    }

    public int judge() {
        return row.firstBad(ground, folds);
    }

    public int why() {
        int bad = row.firstBad(ground, folds);
        return bad == NONE ? NONE : row.reasonOf(bad, ground, folds);
    }

    public int moved(int night, int what) {
        if (night < 0 || night >= row.nights) {
            return UNKNOWN;
        }
        if (what < 0 || what > 1) {
            return OUTSIDE;
        }
        int now = row.folds[night];
        int ahead = night == 0 ? 0 : row.folds[night - 1];
        if (!folds.isFold(now) || night > 0 && !folds.isFold(ahead)) {
            return NONE;
        }
        if (what == 0) {
            return folds.liftedTo(now, ahead);
        }
        return carrying.least(ground, folds.needs[now], folds.needs[ahead]);
    }

    // ---- the fewest

    public int few(int n, int what) {
        if (n < 0 || n > MOST_YARDS || what < 0 || what > 1) {
            return OUTSIDE;
        }
        int found = folds.leastSided(n);
        if (found == NONE) {
            return NONE;
        }
        return what == 0 ? found : folds.sideCounts[found];
    }

    public int two(int a, int b, int what) {
        if (a < 0 || a > MOST_YARDS || b < 0 || b > MOST_YARDS || what < 0 || what > 2) {
            return OUTSIDE;
        }
        pair.find(folds, a, b);
        if (what == 0) {
            return pair.first;
        }
        return what == 1 ? pair.second : pair.needed;
    }

    public int fewest(int w) {
        return wantable(w) ? gone.fewestFor(w) : OUTSIDE;
    }

    public int best(int w, int n, int i) {
        if (!wantable(w) || n < 0 || n > MOST_HURDLES || i < -2) {
            return OUTSIDE;
        }
        gone.findBest(w, n);
        if (i == -2 || gone.lifted == NONE) {
            return gone.lifted;
        }
        if (i == -1) {
            return gone.length;
        }
        return i < gone.length ? gone.row[i] : NONE;
    }

    public int courses(int w, int n) {
        return wantable(w) && n >= 0 && n <= MOST_HURDLES ? gone.ways(w, n) : OUTSIDE;
    }

    public int round(int w) {
        if (!wantable(w)) {
            return OUTSIDE;
        }
        knowPlain();
        int with = gone.fewestFor(w);
        int without = plainGone.fewestFor(w);
        return with == NONE || without == NONE ? NONE : with - without + EVEN;
    }

    public int broken(int w, int n) {
        if (!wantable(w) || n < 1 || n > MOST_HURDLES) {
            return OUTSIDE;
        }
        gone.findBest(w, n - 1);
        int less = gone.lifted;
        gone.findBest(w, n);
        return less == NONE || gone.lifted == NONE ? NONE : less - gone.lifted;
    }

    public int goes(boolean snail, int k, int what) {
        if (k < 1 || k > SQUARES || what < 0 || what > 1) {
            return OUTSIDE;
        }
        if (snail) {
            walk.goInward(ground.columns, ground.rows);
        } else {
            walk.goByColumns(ground.columns, ground.rows);
        }
        walk.measure(folds, k);
        return what == 0 ? walk.needed : walk.lifted;
    }

    public int count(int what) {
        switch (what) {
            case 0: return ground.squares();
            case 1: return ground.columns;
            case 2: return ground.edgeCount();
            case 3: return text.length;
            case 4: return row.nights;
            case 5: return ground.hurdles;
            case 6: return ground.rest;
            case 7: return ground.wantCount;
            default: return OUTSIDE;
        }
    }

    private static boolean wantable(int w) {
        return w >= 1 && w <= MOST_YARDS;
    }

    /** The bytes that were written and not yet done. */
    private static final class Text {
        private final int[] bytes = new int[TEXT_BYTES];
        private int length;

        void put(int sign) {
            if (length < TEXT_BYTES) {
                bytes[length] = sign;
                length++;
            }
        }
    }

    /** Reads the text to its first fault and keeps the lines that it has read. */
    private static final class Reader {
        private final Text text;
        private final int[] verbs = new int[LINES];
        private final int[] firsts = new int[LINES];
        private final int[] seconds = new int[LINES];
        private final int[] thirds = new int[LINES];
        private int lines;
        private int columns;
        private int rows;
        private int start;
        private int stop;
        private int kind;

        Reader(Text text) {
            this.text = text;
        }

        /** The place of the first fault; NONE, and then all lines are kept. */
        int read(int columnsNow, int rowsNow) {
            columns = columnsNow;
            rows = rowsNow;
            stop = 0;
            lines = 0;
            for (int line = 0; line < LINES; line++) {
                if (!readLine(line)) {
                    return start;
                }
                lines = line + 1;
                nextToken();
                if (kind == END) {
                    return NONE;
                }
                if (!endsLine()) {
                    return start;
                }
            }
            return start;
        }

        private boolean endsLine() {
            return kind == OTHER && text.bytes[start] == BETWEEN_LINES;
        }

        private boolean readLine(int line) {
            int verb = readVerb();
            verbs[line] = verb;
            switch (verb) {
                case FIELD: return readSize(line);
                case YARDS: return readPlace(line) && keep(thirds, line, readNumber(0, 9));
                case POND:
                case LANE: return readPlace(line);
                case HEDGE:
                case OPEN: return readPlace(line) && keep(thirds, line, readDirection());
                case HURDLES: return keep(firsts, line, readNumber(0, MOST_HURDLES));
                case WANT: return keep(firsts, line, readNumber(0, MOST_YARDS));
                case REST: return keep(firsts, line, readNumber(0, MOST_REST));
                case FROZEN: return keep(firsts, line, readNumber(0, NIGHTS - 1));
                case THAW: return true;
                default: return false;
            }
        }

        /** Places behind this line are those of the new field. */
        private boolean readSize(int line) {
            int wide = readNumber(1, SQUARES);
            if (wide < 1) {
                return false;
            }
            int high = readNumber(1, SQUARES / wide);
            if (high < 1) {
                return false;
            }
            columns = wide;
            rows = high;
            return keep(firsts, line, wide) && keep(seconds, line, high);
        }

        private boolean readPlace(int line) {
            return keep(firsts, line, readNumber(0, columns - 1))
                && keep(seconds, line, readNumber(0, rows - 1));
        }

        private static boolean keep(int[] entries, int line, int value) {
            if (line >= 0 && line < entries.length) {
                entries[line] = value;
            }
            return value != NONE;
        }

        private int readVerb() {
            nextToken();
            for (int verb = 0; verb < VERBS; verb++) {
                if (tokenIs(verbName(verb))) {
                    return verb;
                }
            }
            return NONE;
        }

        private int readDirection() {
            nextToken();
            for (int direction = 0; direction < DIRECTIONS; direction++) {
                if (tokenIs(directionName(direction))) {
                    return direction;
                }
            }
            return NONE;
        }

        private int readNumber(int low, int high) {
            nextToken();
            if (kind != NUMBER || stop - start > 2) {
                return NONE;
            }
            int value = 0;
            for (int i = start; i < stop; i++) {
                value = value * 10 + text.bytes[i] - '0';
            }
            return value < low || value > high ? NONE : value;
        }

        private void nextToken() {
            while (stop < text.length && text.bytes[stop] == BLANK) {
                stop++;
            }
            start = stop;
            if (stop >= text.length) {
                kind = END;
                return;
            }
            kind = kindOf(text.bytes[stop]);
            stop++;
            while (kind != OTHER && stop < text.length && kindOf(text.bytes[stop]) == kind) {
                stop++;
            }
        }

        private static int kindOf(int sign) {
            if (sign >= 'a' && sign <= 'z') {
                return WORD;
            }
            return sign >= '0' && sign <= '9' ? NUMBER : OTHER;
        }

        private boolean tokenIs(String name) {
            if (kind != WORD || stop - start != name.length()) {
                return false;
            }
            for (int i = 0; i < name.length(); i++) {
                if (text.bytes[start + i] != name.charAt(i)) {
                    return false;
                }
            }
            return true;
        }

        private static String verbName(int verb) {
            switch (verb) {
                case FIELD: return "field";
                case YARDS: return "yards";
                case POND: return "pond";
                case LANE: return "lane";
                case HEDGE: return "hedge";
                case OPEN: return "open";
                case HURDLES: return "hurdles";
                case WANT: return "want";
                case REST: return "rest";
                case FROZEN: return "frozen";
                default: return "thaw";
            }
        }

        private static String directionName(int direction) {
            switch (direction) {
                case LEFT: return "left";
                case RIGHT: return "right";
                case UP: return "up";
                default: return "down";
            }
        }
    }

    /** What the texts have told. */
    private static final class Ground {
        private final int[] kinds = new int[SQUARES];
        private final int[] wants = new int[WANTS];
        private int columns;
        private int rows;
        private int hedges;
        private int hurdles = MOST_HURDLES;
        private int wantCount;
        private int rest;
        private int frozen;

        Ground() {
            lay(1, 1);
        }

        int squares() {
            return columns * rows;
        }

        int edgeCount() {
            return (columns + 1) * rows + columns * (rows + 1);
        }

        int wantOf(int night) {
            return wantCount < 1 || night < 0 ? 1 : wants[night % wantCount];
        }

        boolean isFrozen(int night) {
            return (frozen >> night & 1) == 1;
        }

        int edgeAt(int x, int y, int direction) {
            switch (direction) {
                case LEFT: return (columns + 1) * y + x;
                case RIGHT: return (columns + 1) * y + x + 1;
                case UP: return (columns + 1) * rows + columns * y + x;
                default: return (columns + 1) * rows + columns * (y + 1) + x;
            }
        }

        void tell(int verb, int a, int b, int c) {
            switch (verb) {
                case FIELD: lay(a, b); break;
                case YARDS: put(a, b, c); break;
                case POND: put(a, b, POND_SQUARE); break;
                case LANE: put(a, b, LANE_SQUARE); break;
                case HEDGE: hedges |= 1 << edgeAt(a, b, c); break;
                case OPEN: hedges &= ~(1 << edgeAt(a, b, c)); break;
                case HURDLES: hurdles = a; break;
                case WANT: want(a); break;
                case REST: rest = a; break;
                case FROZEN: frozen |= 1 << a; break;
                default: thaw(); break;
            }
        }

        private void lay(int wide, int high) {
            columns = wide;
            rows = high;
            hedges = 0;
            Arrays.fill(kinds, 1);
        }

        private void put(int x, int y, int kind) {
            int square = columns * y + x;
            if (square >= 0 && square < SQUARES) {
                kinds[square] = kind;
            }
        }

        private void want(int wanted) {
            if (wantCount < WANTS) {
                wants[wantCount] = wanted;
                wantCount++;
            }
        }

        private void thaw() {
            frozen = 0;
            wantCount = 0;
        }
    }

    /** Every set of squares of one field: whether it is a fold, what it needs and has. */
    private static final class FoldTable {
        private final int[] needs = new int[SETS];
        private final int[] sideCounts = new int[SETS];
        private final int[] yardSums = new int[SETS];
        private final int[] beside = new int[SETS];
        private int all;
        private int wanted;
        private int mostSides;

        /** With plain, a pond or a lane is a square of 0 yards. */
        void build(Ground ground, boolean plain) {
            all = (1 << ground.squares()) - 1;
            wanted = 0;
            mostSides = 0;
            int barred = 0;
            int unneeded = ground.hedges;
            for (int y = 0; y < ground.rows; y++) {
                for (int x = 0; x < ground.columns; x++) {
                    int square = ground.columns * y + x;
                    int kind = ground.kinds[square];
                    putSingle(ground, x, y);
                    if (kind >= POND_SQUARE) {
                        barred |= 1 << square;
                        yardSums[1 << square] = 0;
                    } else {
                        yardSums[1 << square] = kind;
                        wanted |= kind > 0 ? 1 << square : 0;
                    }
                    if (kind == POND_SQUARE && !plain) {
                        unneeded |= needs[1 << square];
                    }
                }
            }
            joinAll();
            sortOut(plain ? 0 : barred, unneeded);
        }

        private void putSingle(Ground ground, int x, int y) {
            int single = 1 << (ground.columns * y + x);
            int edges = 0;
            for (int direction = 0; direction < DIRECTIONS; direction++) {
                edges |= 1 << ground.edgeAt(x, y, direction);
            }
            needs[single] = edges;
            int near = 0;
            near |= x > 0 ? single >> 1 : 0;
            near |= x < ground.columns - 1 ? single << 1 : 0;
            near |= y > 0 ? single >> ground.columns : 0;
            near |= y < ground.rows - 1 ? single << ground.columns : 0;
            beside[single] = near;
        }

        /** An edge with both sides in a set falls out, as it is joined twice. */
        private void joinAll() {
            for (int set = 1; set <= all; set++) {
                int single = set & -set;
                int others = set ^ single;
                if (others != 0) {
                    needs[set] = needs[others] ^ needs[single];
                    beside[set] = beside[others] | beside[single];
                    yardSums[set] = yardSums[others] + yardSums[single];
                }
            }
        }

        private void sortOut(int barred, int unneeded) {
            sideCounts[0] = NONE;
            for (int set = 1; set <= all; set++) {
                if ((set & barred) == 0 && inOnePiece(set)) {
                    needs[set] &= ~unneeded;
                    sideCounts[set] = Integer.bitCount(needs[set]);
                    mostSides = Math.max(mostSides, sideCounts[set]);
                } else {
                    needs[set] = 0;
                    sideCounts[set] = NONE;
                }
            }
        }

        private boolean inOnePiece(int set) {
            int reached = set & -set;
            for (int i = 1; i < SQUARES && reached != set; i++) {
                reached |= beside[reached] & set;
            }
            return reached == set;
        }

        boolean knows(int set) {
            return set >= 0 && set <= all;
        }

        boolean isFold(int set) {
            return sideCounts[set] != NONE;
        }

        /** Squares beside a set; all, where nothing is there that they must lie beside. */
        int nextTo(int set) {
            return set == 0 ? all : beside[set];
        }

        /** With 0 for the fold ahead, all that the fold needs. */
        int liftedTo(int fold, int ahead) {
            return Integer.bitCount(needs[fold] & ~needs[ahead]);
        }

        int leastSided(int yards) {
            int found = NONE;
            int least = FAR;
            for (int set = 1; set <= all; set++) {
                if (isFold(set) && yardSums[set] >= yards && sideCounts[set] < least) {
                    least = sideCounts[set];
                    found = set;
                }
            }
            return found;
        }
    }

    /** The row of folds, night by night. */
    private static final class FoldRow {
        private final int[] folds = new int[NIGHTS];
        private int nights;

        void put(int fold) {
            if (nights < NIGHTS) {
                folds[nights] = fold;
                nights++;
            }
        }

        int firstBad(Ground ground, FoldTable table) {
            for (int night = 0; night < nights; night++) {
                if (reasonOf(night, ground, table) != NONE) {
                    return night;
                }
            }
            return NONE;
        }

        int reasonOf(int night, Ground ground, FoldTable table) {
            int fold = folds[night];
            if (!table.isFold(fold)) {
                return NO_FOLD;
            }
            if (table.sideCounts[fold] > ground.hurdles) {
                return TOO_MANY;
            }
            if (table.yardSums[fold] < ground.wantOf(night)) {
                return TOO_FEW;
            }
            if (night == 0) {
                return NONE;
            }
            int ahead = folds[night - 1];
            if (ground.isFrozen(night)) {
                return fold == ahead ? NONE : FROZEN_MOVED;
            }
            if ((table.beside[fold & ~ahead] & ahead & ~fold) == 0) {
                return NOT_BESIDE;
            }
            return isFresh(night, ground.rest) ? NONE : NOT_FRESH;
        }

        private boolean isFresh(int night, int rest) {
            int from = rest == 0 ? 0 : Math.max(0, night - rest);
            for (int earlier = from; earlier < night; earlier++) {
                if ((folds[earlier] & folds[night]) != 0) {
                    return false;
                }
            }
            return true;
        }
    }

    /**
     * Hurdles are given to edges one after another at the least together (the Hungarian method).
     * Each edge has a place at the heap beside the edges that are left, so that none goes without.
     */
    private static final class Carrying {
        private static final int PLACES = 2 * EDGES;
        private final int[] spotX = new int[EDGES];
        private final int[] spotY = new int[EDGES];
        private final int[] toX = new int[EDGES + 1];
        private final int[] toY = new int[EDGES + 1];
        private final int[] fromX = new int[PLACES + 1];
        private final int[] fromY = new int[PLACES + 1];
        private final int[] edgeWorth = new int[EDGES + 1];
        private final int[] placeWorth = new int[PLACES + 1];
        private final int[] givenTo = new int[PLACES + 1];
        private final int[] cameFrom = new int[PLACES + 1];
        private final int[] slack = new int[PLACES + 1];
        private final int[] seen = new int[PLACES + 1];
        private int edges;
        private int places;

        int least(Ground ground, int needed, int neededAhead) {
            laySpots(ground);
            lay(needed & ~neededAhead, neededAhead & ~needed);
            for (int edge = 1; edge <= edges; edge++) {
                giveTo(edge);
            }
            int carried = 0;
            for (int place = 1; place <= places; place++) {
                if (givenTo[place] != 0) {
                    carried += way(givenTo[place], place);
                }
            }
            return carried;
        }

        private void laySpots(Ground ground) {
            for (int y = 0; y <= ground.rows; y++) {
                for (int x = 0; x <= ground.columns; x++) {
                    if (y < ground.rows) {
                        putSpot(ground.edgeAt(x, y, LEFT), 2 * x, 2 * y + 1);
                    }
                    if (x < ground.columns) {
                        putSpot(ground.edgeAt(x, y, UP), 2 * x + 1, 2 * y);
                    }
                }
            }
        }

        private void putSpot(int edge, int x, int y) {
            if (edge >= 0 && edge < EDGES) {
                spotX[edge] = x;
                spotY[edge] = y;
            }
        }

        private void lay(int lifted, int left) {
            edges = 0;
            places = 0;
            for (int edge = 0; edge < EDGES; edge++) {
                if ((lifted >> edge & 1) == 1) {
                    edges++;
                    toX[edges] = spotX[edge];
                    toY[edges] = spotY[edge];
                } else if ((left >> edge & 1) == 1) {
                    putPlace(spotX[edge], spotY[edge]);
                }
            }
            for (int edge = 0; edge < edges; edge++) {
                putPlace(0, 0);
            }
            Arrays.fill(edgeWorth, 0);
            Arrays.fill(placeWorth, 0);
            Arrays.fill(givenTo, 0);
        }

        private void putPlace(int x, int y) {
            if (places < PLACES) {
                places++;
                fromX[places] = x;
                fromY[places] = y;
            }
        }

        private int way(int edge, int place) {
            return Math.abs(toX[edge] - fromX[place]) + Math.abs(toY[edge] - fromY[place]);
        }

        /** Place 0 stands for the edge that has no hurdle yet. */
        private void giveTo(int edge) {
            Arrays.fill(slack, FAR);
            Arrays.fill(seen, 0);
            givenTo[0] = edge;
            int place = 0;
            for (int i = 0; i <= places && givenTo[place] != 0; i++) {
                seen[place] = 1;
                int next = nearestBehind(place);
                shiftBy(slack[next]);
                place = next;
            }
            for (int i = 0; i <= places && place != 0; i++) {
                int earlier = cameFrom[place];
                givenTo[place] = givenTo[earlier];
                place = earlier;
            }
        }

        private int nearestBehind(int place) {
            int edge = givenTo[place];
            int nearest = 0;
            for (int next = 1; next <= places; next++) {
                if (seen[next] == 0) {
                    int above = way(edge, next) - edgeWorth[edge] - placeWorth[next];
                    if (above < slack[next]) {
                        slack[next] = above;
                        cameFrom[next] = place;
                    }
                    if (nearest == 0 || slack[next] < slack[nearest]) {
                        nearest = next;
                    }
                }
            }
            return nearest;
        }

        private void shiftBy(int step) {
            for (int place = 0; place <= places; place++) {
                if (seen[place] == 1) {
                    edgeWorth[givenTo[place]] += step;
                    placeWorth[place] -= step;
                } else {
                    slack[place] -= step;
                }
            }
        }
    }

    /** Two folds at once that need the fewest. */
    private static final class Pair {
        private int first;
        private int second;
        private int needed;

        void find(FoldTable table, int firstYards, int secondYards) {
            first = NONE;
            second = NONE;
            needed = NONE;
            for (int one = 1; one <= table.all; one++) {
                if (table.isFold(one) && table.yardSums[one] >= firstYards) {
                    findSecond(table, one, secondYards);
                }
            }
        }

        /** Sets are tried downward, so that of equals the last one tried is the least. */
        private void findSecond(FoldTable table, int one, int yards) {
            int others = table.all & ~one;
            for (int other = others; other > 0; other = (other - 1) & others) {
                if (table.isFold(other) && table.yardSums[other] >= yards) {
                    int both = Integer.bitCount(table.needs[one] | table.needs[other]);
                    if (needed == NONE || both < needed || both == needed && first == one) {
                        first = one;
                        second = other;
                        needed = both;
                    }
                }
            }
        }
    }

    /** A way over all squares, cut into folds. */
    private static final class Walk {
        private final int[] order = new int[SQUARES];
        private int length;
        private int needed;
        private int lifted;

        void goByColumns(int columns, int rows) {
            length = 0;
            for (int x = 0; x < columns; x++) {
                for (int i = 0; i < rows; i++) {
                    put(columns * (x % 2 == 0 ? i : rows - 1 - i) + x);
                }
            }
        }

        void goInward(int columns, int rows) {
            length = 0;
            for (int ring = 0; 2 * ring < columns && 2 * ring < rows; ring++) {
                goRound(columns, ring, columns - 1 - ring, rows - 1 - ring);
            }
        }

        /** Where a ring is one square wide, there is no way back. */
        private void goRound(int columns, int ring, int right, int bottom) {
            for (int x = ring; x <= right; x++) {
                put(columns * ring + x);
            }
            for (int y = ring + 1; y <= bottom; y++) {
                put(columns * y + right);
            }
            for (int x = right - 1; x >= ring && bottom > ring; x--) {
                put(columns * bottom + x);
            }
            for (int y = bottom - 1; y > ring && right > ring; y--) {
                put(columns * y + ring);
            }
        }

        private void put(int square) {
            if (length < SQUARES) {
                order[length] = square;
                length++;
            }
        }

        void measure(FoldTable table, int each) {
            needed = 0;
            lifted = 0;
            int ahead = 0;
            for (int from = 0; from < length; from += Math.max(1, each)) {
                int fold = part(from, Math.min(length, from + each));
                if (!table.isFold(fold)) {
                    needed = NONE;
                    lifted = NONE;
                    return;
                }
                needed = Math.max(needed, table.sideCounts[fold]);
                lifted += table.liftedTo(fold, ahead);
                ahead = fold;
            }
        }

        private int part(int from, int to) {
            int set = 0;
            for (int i = from; i < to; i++) {
                set |= 1 << order[i];
            }
            return set;
        }
    }

    /**
     * For each set that a course can have had so far, the folds that can come next, and what each is worth.
     * One for all courses, as only one is at work; a set that was had is always in one piece.
     */
    private static final class Steps {
        private final int[] starts = new int[SETS + 1];
        private final int[] nexts = new int[MOST_STEPS];
        private final int[] values = new int[MOST_STEPS];
        private FoldTable listed;

        void list(FoldTable table) {
            if (listed == table) {
                return;
            }
            listed = table;
            int count = 0;
            for (int had = 0; had <= table.all; had++) {
                starts[had] = count;
                if (had == 0 || table.isFold(had)) {
                    count = listBehind(table, had, count);
                }
            }
            starts[table.all + 1] = count;
        }

        private int listBehind(FoldTable table, int had, int from) {
            int count = from;
            int near = table.nextTo(had);
            int others = table.all & ~had;
            for (int next = others; next > 0; next = (next - 1) & others) {
                if ((near & next) != 0 && table.isFold(next) && count < MOST_STEPS) {
                    nexts[count] = next;
                    count++;
                }
            }
            return count;
        }
    }

    /** Courses over one field, worked out from their ends. */
    private static final class Courses {
        private final FoldTable table;
        private final Steps steps;
        private final int[] fewestKept = new int[MOST_YARDS + 1];
        private final int[] row = new int[SQUARES];
        private int length;
        private int lifted;
        private int bestYards;
        private int bestHurdles;
        private int yards;
        private int hurdles;

        Courses(FoldTable table, Steps steps) {
            this.table = table;
            this.steps = steps;
        }

        void forget() {
            Arrays.fill(fewestKept, UNKNOWN);
            bestYards = UNKNOWN;
            steps.listed = null;
        }

        int fewestFor(int w) {
            if (fewestKept[w] == UNKNOWN) {
                workOut(FEWEST_NEEDED, w, table.mostSides);
                fewestKept[w] = orNone(leastNeededOn(0, 0));
            }
            return fewestKept[w];
        }

        /** More hurdles than any fold needs change nothing. */
        void findBest(int w, int n) {
            int enough = Math.min(n, table.mostSides);
            if (bestYards != w || bestHurdles != enough) {
                workOut(FEWEST_LIFTED, w, enough);
                lifted = orNone(leastLiftedOn(0, 0));
                bestYards = w;
                bestHurdles = enough;
                writeRow();
            }
        }

        int ways(int w, int n) {
            workOut(HOW_MANY, w, n);
            return waysOn(0, 0);
        }

        private static int orNone(int value) {
            return value < FAR ? value : NONE;
        }

        /** Of several the first: the least fold each time, and none where none is needed. */
        private void writeRow() {
            length = 0;
            int had = 0;
            int last = 0;
            int left = lifted;
            while (lifted != NONE && length < SQUARES && (length == 0 || !isGone(had))) {
                int next = leastNext(had, last, left);
                left -= table.liftedTo(next, last);
                row[length] = next;
                length++;
                had |= next;
                last = next;
            }
        }

        /** The folds that can come next are listed downward. */
        private int leastNext(int had, int last, int left) {
            int near = table.nextTo(last);
            for (int i = steps.starts[had + 1] - 1; i >= steps.starts[had]; i--) {
                int next = steps.nexts[i];
                if ((near & next) != 0 && table.liftedTo(next, last) + steps.values[i] == left) {
                    return next;
                }
            }
            return 0;
        }

        private boolean isGone(int had) {
            return (table.wanted & ~had) == 0;
        }

        /** A set with one more fold is a greater number, so that what comes behind is known. */
        private void workOut(int goal, int w, int n) {
            steps.list(table);
            yards = w;
            hurdles = n;
            for (int had = table.all; had >= 0; had--) {
                for (int i = steps.starts[had]; i < steps.starts[had + 1]; i++) {
                    int next = steps.nexts[i];
                    steps.values[i] = goal == HOW_MANY ? waysBehind(had | next, next) : leastBehind(goal, had | next, next);
                }
            }
        }

        private int waysBehind(int had, int last) {
            if (table.sideCounts[last] > hurdles) {
                return 0;
            }
            int ended = isGone(had) ? 1 : 0;
            return table.yardSums[last] < yards ? ended : (ended + waysOn(had, last)) % MODULUS;
        }

        private int leastBehind(int goal, int had, int last) {
            if (table.sideCounts[last] > hurdles) {
                return FAR;
            }
            if (isGone(had)) {
                return 0;
            }
            if (table.yardSums[last] < yards) {
                return FAR;
            }
            return goal == FEWEST_NEEDED ? leastNeededOn(had, last) : leastLiftedOn(had, last);
        }

        private int leastNeededOn(int had, int last) {
            int near = table.nextTo(last);
            int least = FAR;
            for (int i = steps.starts[had]; i < steps.starts[had + 1]; i++) {
                int next = steps.nexts[i];
                if (steps.values[i] < least && (near & next) != 0) {
                    least = Math.min(least, Math.max(table.sideCounts[next], steps.values[i]));
                }
            }
            return least;
        }

        private int leastLiftedOn(int had, int last) {
            int near = table.nextTo(last);
            int least = FAR;
            for (int i = steps.starts[had]; i < steps.starts[had + 1]; i++) {
                int next = steps.nexts[i];
                if (steps.values[i] < least && (near & next) != 0) {
                    least = Math.min(least, table.liftedTo(next, last) + steps.values[i]);
                }
            }
            return least;
        }

        private int waysOn(int had, int last) {
            int near = table.nextTo(last);
            int sum = 0;
            for (int i = steps.starts[had]; i < steps.starts[had + 1]; i++) {
                if ((near & steps.nexts[i]) != 0) {
                    sum = (sum + steps.values[i]) % MODULUS;
                }
            }
            return sum;
        }
    }
}
