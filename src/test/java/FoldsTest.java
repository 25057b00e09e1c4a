/** Promises 9 to 16: folds, the row of folds, and what is moved. */
final class FoldsTest {
    private static final int NONE = -1, UNKNOWN = -2, OUTSIDE = -3, FULL = -5;
    private static final int LEAST = Integer.MIN_VALUE, MOST = Integer.MAX_VALUE;

    public static void main(String[] args) {
        sides();
        edges();
        yards();
        foldAndClear();
        judgeByItself();
        judgeFrozen();
        judgeBeside();
        judgeFresh();
        judgeAnew();
        lifted();
        carried();
        Check.end();
    }

    private static void sides() {
        MovedFold fold = Check.told("field 3 3");
        Check.due("9: none", fold.sides(0), NONE);
        Check.due("9: a corner", fold.sides(1), 4);
        Check.due("9: two", fold.sides(3), 6);
        Check.due("9: four in a square", fold.sides(27), 8);
        Check.due("9: a ring has an inner side", fold.sides(495), 16);
        Check.due("9: all", fold.sides(511), 12);
        Check.due("9: two pieces", fold.sides(5), NONE);
        Check.due("9: by corners is no piece", fold.sides(17), NONE);
        Check.due("9: row's end and next row's start are not beside", fold.sides(4 | 8), NONE);
        Check.due("9: sides(512)", fold.sides(512), OUTSIDE);
        Check.due("9: sides(-1)", fold.sides(-1), OUTSIDE);
        Check.due("9: sides(LEAST)", fold.sides(LEAST), OUTSIDE);
        Check.due("9: sides(MOST)", fold.sides(MOST), OUTSIDE);
        Check.tell(fold, "pond 1 1;lane 2 2;hedge 0 0 right;hedge 1 0 up");
        Check.due("9: a pond", fold.sides(16), NONE);
        Check.due("9: a lane", fold.sides(256), NONE);
        Check.due("9: with a pond in it", fold.sides(18), NONE);
        Check.due("9: beside pond, between hedges", fold.sides(2), 1);
        Check.due("9: one piece across a hedge", fold.sides(3), 4);
        Check.due("9: beside a lane", fold.sides(32), 3);
        Check.tell(fold, "hedge 1 0 right");
        Check.due("9: a fold that needs none", fold.sides(2), 0);
    }

    private static void edges() {
        MovedFold fold = Check.told("field 3 2");
        Check.due("10: square 4", fold.edges(16), 1L << 5 | 1L << 6 | 1L << 12 | 1L << 15);
        Check.due("10: squares 1, 4", fold.edges(18), 1L << 1 | 1L << 2 | 1L << 5 | 1L << 6 | 1L << 9 | 1L << 15);
        Check.due("10: none", fold.edges(0), 0);
        Check.due("10: two pieces", fold.edges(5), 0);
        Check.due("10: edges(64)", fold.edges(64), OUTSIDE);
        Check.due("10: edges(-1)", fold.edges(-1), OUTSIDE);
        Check.due("10: edges(LEAST)", fold.edges(LEAST), OUTSIDE);
        Check.tell(fold, "hedge 1 1 down;pond 0 1");
        Check.due("10: without hedge and pond", fold.edges(16), 1L << 6 | 1L << 12);
        Check.due("10: a pond", fold.edges(8), 0);
        MovedFold tall = Check.told("field 1 10");
        Check.due("10: the last edge of all", tall.edges(512), 1L << 18 | 1L << 19 | 1L << 29 | 1L << 30);
    }

    private static void yards() {
        MovedFold fold = Check.told("field 3 3;yards 0 0 9;yards 2 0 5;yards 1 1 0;pond 1 2;lane 2 2");
        Check.due("11: none", fold.yards(0), 0);
        Check.due("11: two pieces", fold.yards(5), 14);
        Check.due("11: none on ponds and lanes", fold.yards(128 | 256), 0);
        Check.due("11: all", fold.yards(511), 9 + 1 + 5 + 1 + 0 + 1 + 1);
        Check.due("11: yards(512)", fold.yards(512), OUTSIDE);
        Check.due("11: yards(-1)", fold.yards(-1), OUTSIDE);
        Check.due("11: yards(LEAST)", fold.yards(LEAST), OUTSIDE);
        StringBuilder rich = new StringBuilder("field 9 1");
        for (int x = 0; x < 9; x++) {
            rich.append(";yards ").append(x).append(" 0 9");
        }
        Check.due("11: the most", Check.told(rich.toString()).yards(511), 81);
    }

    private static void foldAndClear() {
        MovedFold fold = Check.told("field 2 2");
        Check.due("12: fold(16)", fold.fold(16), OUTSIDE);
        Check.due("12: fold(-1)", fold.fold(-1), OUTSIDE);
        Check.due("12: fold(LEAST)", fold.fold(LEAST), OUTSIDE);
        Check.due("12: nothing changed", fold.count(4), 0);
        Check.due("12: no fold", fold.fold(0), 1);
        Check.due("12: two pieces", fold.fold(9), 2);
        for (int i = 3; i <= 20; i++) {
            Check.due("12: night " + i, fold.fold(15), i);
        }
        Check.due("12: full", fold.fold(1), FULL);
        Check.due("12: OUTSIDE is ahead of FULL", fold.fold(16), OUTSIDE);
        Check.due("12: nothing changed", fold.count(4), 20);
        Check.due("13: clear()", fold.clear(), 20);
        Check.due("13: it is empty", fold.count(4), 0);
        Check.due("13: clear() again", fold.clear(), 0);
        Check.due("13: judge()", fold.judge(), NONE);
        Check.due("13: the first again", fold.fold(1), 1);
        Check.due("13: the row is good", fold.judge(), NONE);
    }

    private static void judged(String call, MovedFold fold, int[] row, int night, int why) {
        fold.clear();
        for (int i = 0; i < row.length; i++) {
            Check.due(call + ": fold " + i, fold.fold(row[i]), i + 1);
        }
        Check.due("14: " + call, fold.judge(), night);
        Check.due("15: " + call, fold.why(), why);
    }

    private static void judgeByItself() {
        MovedFold fold = Check.told("field 5 2;hurdles 6;want 2;want 1");
        judged("no row", fold, new int[] {}, NONE, NONE);
        judged("nothing", fold, new int[] {0}, 0, 0);
        judged("two pieces with too few yards", fold, new int[] {5}, 0, 0);
        judged("as many hurdles as there are", fold, new int[] {3}, NONE, NONE);
        judged("one too many", fold, new int[] {7}, 0, 1);
        judged("too few yards", fold, new int[] {1}, 0, 2);
        judged("the second night wants less", fold, new int[] {3, 4}, NONE, NONE);
        judged("the third wants as the first", fold, new int[] {3, 4, 8}, 2, 2);
        judged("many hurdles are ahead of not beside", fold, new int[] {3, 792}, 1, 1);
        Check.tell(fold, "hurdles 3;thaw;want 5");
        judged("many hurdles are ahead of few yards", fold, new int[] {1}, 0, 1);
        Check.tell(fold, "hurdles 60");
        judged("few yards are ahead of not beside", fold, new int[] {31, 31 << 5, 1}, 2, 2);
        Check.tell(fold, "thaw;want 0;yards 0 0 0");
        judged("no yards are wanted", fold, new int[] {1}, NONE, NONE);
        Check.tell(fold, "thaw");
        judged("1 yard is wanted without a row", fold, new int[] {1}, 0, 2);
        Check.tell(fold, "pond 0 0");
        judged("a pond", fold, new int[] {1}, 0, 0);
    }

    private static void judgeFrozen() {
        MovedFold fold = Check.told("field 4 1;frozen 0;frozen 2;frozen 3");
        judged("frozen, not moved", fold, new int[] {1, 2, 2, 2, 4}, NONE, NONE);
        judged("frozen and moved", fold, new int[] {1, 2, 4}, 2, 3);
        judged("frozen and moved late", fold, new int[] {1, 2, 2, 4}, 3, 3);
        judged("frozen and one more square", fold, new int[] {1, 2, 6}, 2, 3);
        judged("moved too far behind the frost", fold, new int[] {1, 2, 2, 2, 8}, 4, 4);
        judged("no fold is ahead of frozen", fold, new int[] {1, 2, 5}, 2, 0);
        Check.tell(fold, "thaw;frozen 1;want 1;want 2");
        judged("too few yards are ahead of frozen", fold, new int[] {1, 2}, 1, 2);
        judged("frozen, not moved, too few yards", fold, new int[] {1, 1}, 1, 2);
    }

    private static void judgeBeside() {
        MovedFold fold = Check.told("field 5 2;rest 1");
        judged("beside", fold, new int[] {3, 4}, NONE, NONE);
        judged("below", fold, new int[] {3, 64}, NONE, NONE);
        judged("far", fold, new int[] {3, 8}, 1, 4);
        judged("by a corner", fold, new int[] {1, 64}, 1, 4);
        judged("the same", fold, new int[] {3, 3}, 1, 4);
        judged("one more square", fold, new int[] {3, 7}, 1, 4);
        judged("one less square", fold, new int[] {7, 3}, 1, 4);
        judged("beside is ahead of fresh", fold, new int[] {1, 3}, 1, 4);
        judged("beside, but only through what both have", fold, new int[] {3, 6}, 1, 4);
        judged("beside, with a square of both", fold, new int[] {3 | 32, 3 << 1 | 64}, 1, 5);
        judged("row's end is not beside the next row's start", fold, new int[] {16, 32}, 1, 4);
        Check.tell(fold, "hedge 1 0 right");
        judged("beside through a hedge", fold, new int[] {3, 4}, NONE, NONE);
    }

    private static void judgeFresh() {
        MovedFold fold = Check.told("field 2 2");
        int[] around = {1, 2, 8, 4, 1, 2};
        judged("no rest: never again", fold, around, 4, 5);
        Check.tell(fold, "rest 4");
        judged("4 nights back", fold, around, 4, 5);
        Check.tell(fold, "rest 3");
        judged("3 nights are enough", fold, around, NONE, NONE);
        Check.tell(fold, "rest 1");
        judged("there and back", fold, new int[] {1, 2, 1, 2}, NONE, NONE);
        Check.tell(fold, "rest 2");
        judged("back too soon", fold, new int[] {1, 2, 1}, 2, 5);
        Check.tell(fold, "rest 99");
        judged("a long rest", fold, around, 4, 5);
        Check.tell(fold, "rest 2;frozen 2");
        judged("frozen nights are nights", fold, new int[] {1, 2, 2, 1}, NONE, NONE);
        Check.tell(fold, "rest 3");
        judged("and count to the rest", fold, new int[] {1, 2, 2, 1}, 3, 5);
    }

    private static void judgeAnew() {
        MovedFold fold = Check.told("field 2 1");
        judged("a good row", fold, new int[] {1, 2}, NONE, NONE);
        Check.tell(fold, "pond 1 0");
        Check.due("14: the row is judged by the field as it is", fold.judge(), 1);
        Check.due("15: the row is judged by the field as it is", fold.why(), 0);
        Check.due("15: asking changes nothing", fold.judge(), 1);
        Check.tell(fold, "hurdles 2");
        Check.due("14: and by its hurdles", fold.judge(), 0);
        Check.due("15: and by its hurdles", fold.why(), 1);
    }

    private static void lifted() {
        MovedFold fold = Check.told("field 3 3;pond 2 2");
        Check.due("16: no night", fold.moved(0, 0), UNKNOWN);
        for (int set : new int[] {1, 3, 24, 24, 5, 32, 256, 0}) {
            fold.fold(set);
        }
        int[] due = {4, 3, 4, 0, NONE, NONE, NONE, NONE};
        for (int night = 0; night < due.length; night++) {
            Check.due("16: lifted in night " + night, fold.moved(night, 0), due[night]);
        }
        fold.clear();
        fold.fold(5);
        fold.fold(1);
        Check.due("16: lifted in night 1 from no fold", fold.moved(1, 0), NONE);
        Check.due("16: carried in night 1 from no fold", fold.moved(1, 1), NONE);
        fold.fold(1);
        Check.due("16: no fold two nights ahead", fold.moved(2, 0), 0);
        fold.clear();
        for (int set : new int[] {1, 3, 24, 24, 5, 32, 256, 0}) {
            fold.fold(set);
        }
        Check.due("16: carried to no fold", fold.moved(4, 1), NONE);
        Check.due("16: carried from no fold", fold.moved(5, 1), NONE);
        Check.due("16: a night behind the row", fold.moved(8, 0), UNKNOWN);
        Check.due("16: night -1", fold.moved(-1, 0), UNKNOWN);
        Check.due("16: night LEAST", fold.moved(LEAST, 1), UNKNOWN);
        Check.due("16: night MOST", fold.moved(MOST, 1), UNKNOWN);
        Check.due("16: what 2", fold.moved(0, 2), OUTSIDE);
        Check.due("16: what -1", fold.moved(0, -1), OUTSIDE);
        Check.due("16: UNKNOWN is ahead of OUTSIDE", fold.moved(8, 2), UNKNOWN);
        Check.due("16: OUTSIDE is ahead of NONE", fold.moved(4, 2), OUTSIDE);
    }

    private static void carried() {
        MovedFold fold = Check.told("field 3 1");
        // from square 0 to square 1: above and below are 2 each away, the right edge 2 from the left one
        for (int set : new int[] {1, 2, 4, 2, 1, 7}) {
            fold.fold(set);
        }
        Check.due("16: from the heap: 1 + 1 + 3 + 3", fold.moved(0, 1), 8);
        Check.due("16: one on: above, below and left", fold.moved(1, 1), 2 + 2 + 4);
        Check.due("16: the heap stays far", fold.moved(2, 1), 2 + 2 + 4);
        Check.due("16: back: the left edge from the heap", fold.moved(3, 1), 2 + 2 + 3);
        Check.due("16: to the heap's side: only below not from the heap", fold.moved(4, 1), 1 + 1 + 2);
        // above and below of 1 and 2 and the right edge are lifted; only the edge between 0 and 1 is left over
        Check.due("16: grown: one from the edge, four from the heap", fold.moved(5, 1), 3 + 5 + 5 + 7 + 7 - 3);
        MovedFold square = Check.told("field 2 2");
        square.fold(5);
        square.fold(10);
        Check.due("16: a column over", square.moved(1, 0), 4);
        Check.due("16: above, below and both edges on the right", square.moved(1, 1), 2 + 2 + 4 + 4);
    }
}
