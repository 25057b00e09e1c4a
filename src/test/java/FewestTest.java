/** Promises 17 to 25: the fewest hurdles, courses, strips and snails, and the counts. */
final class FewestTest {
    private static final int NONE = -1, OUTSIDE = -3;
    private static final int LEAST = Integer.MIN_VALUE, MOST = Integer.MAX_VALUE;

    public static void main(String[] args) {
        few();
        two();
        fewest();
        best();
        bestOfSeveral();
        courses();
        round();
        broken();
        strips();
        snails();
        goesRefused();
        count();
        hurdlesOfTheFieldDoNotCount();
        changedFields();
        Check.end();
    }

    private static void fewDue(MovedFold fold, int n, int set, int needed) {
        Check.due("17: few(" + n + ", 0)", fold.few(n, 0), set);
        Check.due("17: few(" + n + ", 1)", fold.few(n, 1), needed);
    }

    private static void few() {
        MovedFold fold = Check.told("field 3 3");
        fewDue(fold, 0, 1, 4);
        fewDue(fold, 1, 1, 4);
        fewDue(fold, 2, 3, 6);
        fewDue(fold, 3, 7, 8);
        fewDue(fold, 4, 27, 8);
        fewDue(fold, 5, 31, 10);
        fewDue(fold, 9, 511, 12);
        fewDue(fold, 10, NONE, NONE);
        fewDue(fold, 90, NONE, NONE);
        fewDue(fold, -1, OUTSIDE, OUTSIDE);
        fewDue(fold, 91, OUTSIDE, OUTSIDE);
        Check.due("17: what 2", fold.few(1, 2), OUTSIDE);
        Check.due("17: what -1", fold.few(1, -1), OUTSIDE);
        Check.due("17: LEAST", fold.few(LEAST, 0), OUTSIDE);
        Check.due("17: MOST", fold.few(MOST, 0), OUTSIDE);
        Check.tell(fold, "hedge 2 2 down;hedge 2 2 right;yards 0 0 0;yards 2 2 0;pond 1 1;yards 2 1 9");
        fewDue(fold, 0, 256, 2);
        fewDue(fold, 1, 2, 3);
        fewDue(fold, 9, 32, 3);
        // squares 5, 7 and 8: the right of 5, above it, the left of 7, below it
        fewDue(fold, 10, 32 | 128 | 256, 4);
        fewDue(fold, 14, 494, 10);
        fewDue(fold, 15, NONE, NONE);
    }

    private static void twoDue(MovedFold fold, int a, int b, int[] due) {
        for (int what = 0; what < 3; what++) {
            Check.due("18: two(" + a + ", " + b + ", " + what + ")", fold.two(a, b, what), due[what]);
        }
    }

    private static void two() {
        MovedFold fold = Check.told("field 3 3");
        int[] none = {NONE, NONE, NONE};
        int[] outside = {OUTSIDE, OUTSIDE, OUTSIDE};
        twoDue(fold, 0, 0, new int[] {1, 2, 7});
        twoDue(fold, 1, 1, new int[] {1, 2, 7});
        twoDue(fold, 2, 1, new int[] {3, 4, 9});
        twoDue(fold, 1, 2, new int[] {1, 6, 9});
        twoDue(fold, 2, 2, new int[] {3, 24, 10});
        twoDue(fold, 8, 1, new int[] {255, 256, 14});
        twoDue(fold, 1, 8, new int[] {1, 510, 14});
        twoDue(fold, 9, 0, none);
        twoDue(fold, 5, 5, none);
        twoDue(fold, -1, 0, outside);
        twoDue(fold, 0, -1, outside);
        twoDue(fold, 91, 0, outside);
        twoDue(fold, 0, 91, outside);
        twoDue(fold, 90, 90, none);
        Check.due("18: what 3", fold.two(1, 1, 3), OUTSIDE);
        Check.due("18: what -1", fold.two(1, 1, -1), OUTSIDE);
        Check.due("18: what MOST", fold.two(1, 1, MOST), OUTSIDE);
        MovedFold lane = Check.told("field 3 1;lane 1 0;hedge 2 0 right;hedge 0 0 left;hedge 0 0 up");
        twoDue(lane, 1, 1, new int[] {1, 4, 5});
        MovedFold row = Check.told("field 3 1;yards 2 0 5;hedge 1 0 left");
        twoDue(row, 1, 1, new int[] {1, 2, 6});
        twoDue(row, 5, 1, new int[] {4, 2, 6});
        twoDue(row, 6, 1, new int[] {6, 1, 8});
    }

    private static void fewest() {
        MovedFold fold = Check.told("field 3 3");
        int[] due = {4, 6, 8, 10, 10, 10, 12, 12, 12, 12};
        for (int w = 1; w <= due.length; w++) {
            Check.due("19: fewest(" + w + ")", fold.fewest(w), due[w - 1]);
        }
        Check.due("19: fewest(90)", fold.fewest(90), 12);
        Check.due("19: fewest(0)", fold.fewest(0), OUTSIDE);
        Check.due("19: fewest(91)", fold.fewest(91), OUTSIDE);
        Check.due("19: fewest(LEAST)", fold.fewest(LEAST), OUTSIDE);
        Check.due("19: fewest(MOST)", fold.fewest(MOST), OUTSIDE);
        Check.due("19: cut by a lane", Check.told("field 3 1;lane 1 0").fewest(1), NONE);
        Check.due("19: cut by a pond", Check.told("field 3 1;pond 1 0").fewest(1), NONE);
        Check.due("19: nothing behind the lane", Check.told("field 3 1;lane 1 0;yards 2 0 0").fewest(1), 4);
        Check.due("19: squares with 0 yards are left", Check.told("field 3 1;yards 0 0 0;yards 2 0 0").fewest(9), 4);
        Check.due("19: all have 0 yards", Check.told("yards 0 0 0").fewest(1), 4);
        Check.due("19: no square is left", Check.told("pond 0 0").fewest(1), NONE);
        Check.due("19: a bridge of 0 yards", Check.told("field 3 1;yards 1 0 0").fewest(1), 6);
        // an arm, then the middle with two arms, then the last arm
        Check.due("19: a cross", Check.told("field 3 3;lane 0 0;lane 2 0;lane 0 2;lane 2 2").fewest(1), 8);
    }

    private static void bestDue(MovedFold fold, int w, int n, int lifted, int... row) {
        String call = "20: best(" + w + ", " + n + ", ";
        Check.due(call + "-2)", fold.best(w, n, -2), lifted);
        Check.due(call + "-1)", fold.best(w, n, -1), lifted == NONE ? NONE : row.length);
        for (int i = 0; i < row.length; i++) {
            Check.due(call + i + ")", fold.best(w, n, i), row[i]);
        }
        Check.due(call + row.length + ")", fold.best(w, n, row.length), NONE);
        Check.due(call + "10)", fold.best(w, n, 10), NONE);
        Check.due(call + "MOST)", fold.best(w, n, MOST), NONE);
    }

    private static void best() {
        MovedFold fold = Check.told("field 3 1");
        bestDue(fold, 1, 60, 8, 7);
        bestDue(fold, 1, 8, 8, 7);
        bestDue(fold, 1, 7, 9, 1, 6);
        bestDue(fold, 1, 6, 9, 1, 6);
        bestDue(fold, 2, 7, 9, 3, 4);
        bestDue(fold, 1, 5, 10, 1, 2, 4);
        bestDue(fold, 1, 4, 10, 1, 2, 4);
        bestDue(fold, 2, 5, NONE);
        bestDue(fold, 1, 3, NONE);
        bestDue(fold, 1, 0, NONE);
        bestDue(fold, 90, 60, 8, 7);
        bestDue(fold, 90, 7, NONE);
        Check.due("20: w 0", fold.best(0, 60, 0), OUTSIDE);
        Check.due("20: w 91", fold.best(91, 60, 0), OUTSIDE);
        Check.due("20: n -1", fold.best(1, -1, 0), OUTSIDE);
        Check.due("20: n 61", fold.best(1, 61, 0), OUTSIDE);
        Check.due("20: i -3", fold.best(1, 60, -3), OUTSIDE);
        Check.due("20: i LEAST", fold.best(1, 60, LEAST), OUTSIDE);
        Check.due("20: OUTSIDE is ahead of NONE", fold.best(1, 0, -3), OUTSIDE);
    }

    private static void bestOfSeveral() {
        // the fold of square 1 needs nothing: 1 alone, 1 and then 2, and both at once lift 3 each
        MovedFold even = Check.told("field 2 1;yards 1 0 0;hedge 1 0 left;hedge 1 0 right;hedge 1 0 up;hedge 1 0 down");
        bestDue(even, 1, 60, 3, 1);
        MovedFold square = Check.told("field 2 2");
        bestDue(square, 1, 4, 4 + 3 + 3 + 3, 1, 2, 8, 4);
        bestDue(square, 1, 7, 6 + 4, 3, 12);
        // 16 behind 8 would lift as few, but does not lie beside it
        MovedFold hedged = Check.told("field 2 3;lane 1 0;hedge 1 2 up");
        bestDue(hedged, 1, 4, 4 + 3 + 2 + 3 + 3, 1, 4, 8, 32, 16);
        MovedFold free = Check.told("field 2 1;yards 0 0 0;yards 1 0 0");
        bestDue(free, 1, 60, 4, 1);
        MovedFold lane = Check.told("field 3 1;lane 1 0;yards 0 0 0");
        bestDue(lane, 1, 60, 4, 4);
    }

    private static void courses() {
        MovedFold fold = Check.told("field 3 1");
        Check.due("21: courses(1, 60)", fold.courses(1, 60), 7);
        Check.due("21: courses(1, 8)", fold.courses(1, 8), 7);
        Check.due("21: courses(1, 7)", fold.courses(1, 7), 6);
        Check.due("21: courses(1, 5)", fold.courses(1, 5), 2);
        Check.due("21: courses(1, 3)", fold.courses(1, 3), 0);
        Check.due("21: courses(2, 60)", fold.courses(2, 60), 3);
        Check.due("21: courses(3, 60)", fold.courses(3, 60), 1);
        Check.due("21: courses(90, 60)", fold.courses(90, 60), 1);
        Check.due("21: courses(1, 0)", fold.courses(1, 0), 0);
        Check.due("21: courses(0, 60)", fold.courses(0, 60), OUTSIDE);
        Check.due("21: courses(91, 60)", fold.courses(91, 60), OUTSIDE);
        Check.due("21: courses(1, -1)", fold.courses(1, -1), OUTSIDE);
        Check.due("21: courses(1, 61)", fold.courses(1, 61), OUTSIDE);
        // [1], [3] and [1, 2]; the square of 0 yards cannot be ahead of the other
        Check.due("21: 0 yards come last", Check.told("field 2 1;yards 1 0 0").courses(1, 60), 3);
        Check.due("21: with 4 hurdles", Check.told("field 2 1;yards 1 0 0").courses(1, 4), 2);
        Check.due("21: any fold where no yards are", Check.told("field 2 1;yards 0 0 0;yards 1 0 0").courses(1, 60), 3);
        Check.due("21: a hedge hinders no one", Check.told("field 2 1;hedge 0 0 right").courses(1, 60), 3);
        Check.due("21: the most squares", Check.told("field 10 1").courses(1, 60), 1023);
    }

    private static void round() {
        MovedFold pond = Check.told("field 2 1;pond 1 0");
        Check.due("22: a pond is a side", pond.round(1), 99);
        MovedFold lane = Check.told("field 3 2;lane 1 0");
        Check.due("22: small folds go round", lane.round(1), 100);
        Check.due("22: 12 for the bow, 10 for all", lane.round(5), 102);
        Check.due("22: round(90)", lane.round(90), 102);
        Check.due("22: round(0)", lane.round(0), OUTSIDE);
        Check.due("22: round(91)", lane.round(91), OUTSIDE);
        Check.due("22: round(LEAST)", lane.round(LEAST), OUTSIDE);
        Check.due("22: no course", Check.told("field 3 1;lane 1 0").round(1), NONE);
        Check.due("22: no square", Check.told("lane 0 0").round(1), NONE);
        Check.due("22: neither pond nor lane", Check.told("field 3 3").round(5), 100);
        // the hedge stays where the pond was: 2 with the pond, 3 without
        Check.due("22: hedges stay", Check.told("field 2 1;pond 1 0;hedge 0 0 left").round(1), 99);
        Check.due("22: and the field stays", lane.square(1), 11);
        Check.due("22: and its fewest", lane.fewest(5), 12);
    }

    private static void broken() {
        MovedFold fold = Check.told("field 3 1");
        Check.due("23: broken(1, 60)", fold.broken(1, 60), 0);
        Check.due("23: broken(1, 9)", fold.broken(1, 9), 0);
        Check.due("23: broken(1, 8)", fold.broken(1, 8), 1);
        Check.due("23: broken(1, 7)", fold.broken(1, 7), 0);
        Check.due("23: broken(1, 6)", fold.broken(1, 6), 1);
        Check.due("23: broken(1, 4)", fold.broken(1, 4), NONE);
        Check.due("23: broken(1, 1)", fold.broken(1, 1), NONE);
        Check.due("23: broken(2, 8)", fold.broken(2, 8), 1);
        Check.due("23: broken(2, 6)", fold.broken(2, 6), NONE);
        Check.due("23: broken(90, 8)", fold.broken(90, 8), NONE);
        Check.due("23: broken(0, 8)", fold.broken(0, 8), OUTSIDE);
        Check.due("23: broken(91, 8)", fold.broken(91, 8), OUTSIDE);
        Check.due("23: broken(1, 0)", fold.broken(1, 0), OUTSIDE);
        Check.due("23: broken(1, 61)", fold.broken(1, 61), OUTSIDE);
        Check.due("23: broken(1, LEAST)", fold.broken(1, LEAST), OUTSIDE);
        bestDue(fold, 1, 8, 8, 7);
        bestDue(fold, 1, 7, 9, 1, 6);
    }

    private static void goesDue(MovedFold fold, boolean snail, int k, int needed, int lifted) {
        String call = "24: goes(" + snail + ", " + k + ", ";
        Check.due(call + "0)", fold.goes(snail, k, 0), needed);
        Check.due(call + "1)", fold.goes(snail, k, 1), lifted);
    }

    private static void strips() {
        MovedFold fold = Check.told("field 3 3");
        goesDue(fold, false, 1, 4, 4 + 8 * 3);
        goesDue(fold, false, 3, 8, 8 + 5 + 5);
        // 0 3 6 7, then 4 1 2 5 (three edges of the first), then 8 (one of the second)
        goesDue(fold, false, 4, 10, 10 + 5 + 3);
        goesDue(fold, false, 9, 12, 12);
        goesDue(fold, false, 10, 12, 12);
        MovedFold low = Check.told("field 3 2;yards 0 1 0");
        // 0 3 4, then 1 2 5 (three edges of the first)
        goesDue(low, false, 3, 8, 8 + 5);
        // 0 3, 4 1, 2 5
        goesDue(low, false, 2, 6, 6 + 4 + 4);
        // 0 3 4 1 (a square), then 2 5
        goesDue(low, false, 4, 8, 8 + 4);
        MovedFold one = Check.told("field 2 2;hedge 0 0 left");
        // 0 2 3, then 1
        goesDue(one, false, 3, 7, 7 + 2);
        MovedFold wide = Check.told("field 10 1");
        goesDue(wide, false, 3, 8, 8 + 7 + 7 + 3);
        MovedFold tall = Check.told("field 1 10");
        goesDue(tall, false, 3, 8, 8 + 7 + 7 + 3);
        Check.tell(fold, "pond 0 2");
        goesDue(fold, false, 1, NONE, NONE);
        goesDue(fold, false, 9, NONE, NONE);
        Check.tell(fold, "yards 0 2 0;lane 2 2");
        goesDue(fold, false, 4, NONE, NONE);
        Check.tell(fold, "yards 2 2 0;hedge 0 0 left;hedge 0 1 left;hedge 0 2 left");
        goesDue(fold, false, 3, 8, 5 + 5 + 5);
    }

    private static void snails() {
        MovedFold fold = Check.told("field 3 3");
        goesDue(fold, true, 1, 4, 4 + 8 * 3);
        // 0 1 2, then 5 8 7 (one edge of the first), then 6 3 4 (three of the second)
        goesDue(fold, true, 3, 8, 8 + 7 + 5);
        // the ring, then the middle
        goesDue(fold, true, 8, 16, 16);
        goesDue(fold, true, 10, 12, 12);
        MovedFold wide = Check.told("field 5 2");
        // 0 1 2 3 4, then 9 8 7 6 5
        goesDue(wide, true, 5, 12, 12 + 7);
        MovedFold narrow = Check.told("field 2 5");
        // 0 1 3 5 7, then 9 8 6 4 2: they share four edges along and one at each end
        goesDue(narrow, true, 5, 12, 12 + 7);
        goesDue(Check.told("field 3 1"), true, 2, 6, 6 + 3);
        goesDue(Check.told("field 3 1"), true, 3, 8, 8);
        goesDue(Check.told("field 1 3"), true, 2, 6, 6 + 3);
        goesDue(Check.told("field 1 3"), true, 3, 8, 8);
        // 0 1 3, then 2
        goesDue(Check.told("field 2 2;hedge 0 0 left"), true, 3, 7, 7 + 2);
        MovedFold tall = Check.told("field 1 10");
        goesDue(tall, true, 4, 10, 10 + 9 + 5);
        MovedFold row = Check.told("field 10 1");
        goesDue(row, true, 4, 10, 10 + 9 + 5);
        Check.tell(fold, "lane 1 1");
        goesDue(fold, true, 8, NONE, NONE);
    }

    private static void goesRefused() {
        MovedFold fold = Check.told("field 2 2;pond 0 0");
        for (int k : new int[] {0, -1, 11, LEAST, MOST}) {
            Check.due("24: k " + k, fold.goes(true, k, 0), OUTSIDE);
            Check.due("24: k " + k, fold.goes(false, k, 1), OUTSIDE);
        }
        for (int what : new int[] {-1, 2, LEAST, MOST}) {
            Check.due("24: what " + what, fold.goes(true, 1, what), OUTSIDE);
            Check.due("24: what " + what, fold.goes(false, 1, what), OUTSIDE);
        }
    }

    private static void count() {
        MovedFold fold = Check.told("field 5 2;hurdles 17;rest 23;want 4;want 5;want 6");
        fold.fold(1);
        fold.fold(2);
        Check.write(fold, "thaw ");
        int[] due = {10, 5, 27, 5, 2, 17, 23, 3};
        for (int what = 0; what < due.length; what++) {
            Check.due("25: count(" + what + ")", fold.count(what), due[what]);
        }
        Check.due("25: count(8)", fold.count(8), OUTSIDE);
        Check.due("25: count(-1)", fold.count(-1), OUTSIDE);
        Check.due("25: count(LEAST)", fold.count(LEAST), OUTSIDE);
        Check.due("25: count(MOST)", fold.count(MOST), OUTSIDE);
    }

    /** The hurdles that are there, wants and frost are for the row of folds alone. */
    private static void hurdlesOfTheFieldDoNotCount() {
        MovedFold fold = Check.told("field 3 1;hurdles 0;want 90;rest 9;frozen 1");
        Check.due("17: few with no hurdles", fold.few(3, 0), 7);
        Check.due("19: fewest with no hurdles", fold.fewest(1), 4);
        Check.due("20: best with no hurdles", fold.best(1, 60, -2), 8);
        Check.due("24: goes with no hurdles", fold.goes(false, 3, 1), 8);
    }

    /** What was worked out is worked out again when the field has changed. */
    private static void changedFields() {
        MovedFold fold = Check.told("field 3 1");
        Check.due("19: before", fold.fewest(3), 8);
        bestDue(fold, 3, 60, 8, 7);
        Check.due("22: before", fold.round(3), 100);
        Check.tell(fold, "hedge 0 0 left;pond 2 0");
        Check.due("19: behind", fold.fewest(3), 4);
        bestDue(fold, 3, 60, 4, 3);
        // 3 yards are not there, so it is one fold: of two squares, 4 with the pond and 5 without
        Check.due("22: behind", fold.round(3), 99);
        Check.tell(fold, "yards 2 0 1");
        Check.due("19: dried", fold.fewest(3), 7);
        Check.due("22: dried", fold.round(3), 100);
        Check.tell(fold, "field 10 1");
        Check.due("21: grown", fold.courses(1, 60), 1023);
        Check.tell(fold, "field 1 2");
        Check.due("21: shrunk", fold.courses(1, 60), 3);
        bestDue(fold, 1, 5, 7, 1, 2);
    }
}
