/** Promises 9 to 16 at their bounds: each method has the document's sentence that it looks at. */
final class FoldsBoundsTest {
    private static final int NONE = -1, UNKNOWN = -2, OUTSIDE = -3, FULL = -5;
    private static final int LEAST = Integer.MIN_VALUE, MOST = Integer.MAX_VALUE;

    public static void main(String[] args) {
        bitsOfNoSquares();
        oneSquareAtLeast();
        nonePondOrLane();
        inOnePiece();
        justOneSide();
        hedgesAndPonds();
        yardsOfSets();
        rowOfTwenty();
        cleared();
        goodWithoutFolds();
        hurdlesAtMost();
        yardsOrMore();
        wantsByNight();
        frozenNotZero();
        frozenLastNight();
        besideAndNotBoth();
        lastRestNights();
        anyNightAhead();
        longestRest();
        firstReason();
        firstNight();
        movedRefused();
        movedWithoutFold();
        liftedFromAhead();
        carriedFromTheHeap();
        carriedFromEdges();
        carriedLeastTogether();
        Check.end();
    }

    /** "OUTSIDE: bits of no SQUARES": the last set that there is and the first that is not, in each size. */
    private static void bitsOfNoSquares() {
        for (int w = 1; w <= 10; w++) {
            for (int h = 1; w * h <= 10; h++) {
                int all = (1 << w * h) - 1;
                MovedFold fold = Check.told("field " + w + " " + h);
                String size = " in " + w + " by " + h;
                Check.due("9: all" + size, fold.sides(all), 2 * (w + h));
                Check.due("10: all" + size, Long.bitCount(fold.edges(all)), 2 * (w + h));
                Check.due("11: all" + size, fold.yards(all), w * h);
                Check.due("12: all" + size, fold.fold(all), 1);
                for (int set : new int[] {all + 1, all + 2, 2 * all + 1, -1, -all, LEAST, LEAST | 1, MOST, 1 << 30}) {
                    Check.due("9: sides(" + set + ")" + size, fold.sides(set), OUTSIDE);
                    Check.due("10: edges(" + set + ")" + size, fold.edges(set), OUTSIDE);
                    Check.due("11: yards(" + set + ")" + size, fold.yards(set), OUTSIDE);
                    Check.due("12: fold(" + set + ")" + size, fold.fold(set), OUTSIDE);
                }
                Check.due("12: none of them is in the row" + size, fold.count(4), 1);
            }
        }
        MovedFold shrunk = Check.told("field 10 1");
        Check.due("9: a great set", shrunk.sides(1023), 22);
        Check.tell(shrunk, "field 1 1");
        Check.due("9: it is there no more", shrunk.sides(2), OUTSIDE);
        Check.due("11: it is there no more", shrunk.yards(1023), OUTSIDE);
        Check.due("12: it is there no more", shrunk.fold(3), OUTSIDE);
    }

    /** "A FOLD is a set of SQUARES (bits), one at least"; "NONE: it is none"; "0 also if it is none". */
    private static void oneSquareAtLeast() {
        MovedFold fold = Check.told("field 2 2");
        Check.due("9: no square", fold.sides(0), NONE);
        Check.due("10: no square", fold.edges(0), 0);
        Check.due("11: no square", fold.yards(0), 0);
        Check.due("12: no square", fold.fold(0), 1);
        Check.due("14: no square", fold.judge(), 0);
        Check.due("15: no square", fold.why(), 0);
        for (int square = 0; square < 4; square++) {
            Check.due("9: square " + square, fold.sides(1 << square), 4);
        }
    }

    /** "none POND or LANE". */
    private static void nonePondOrLane() {
        for (String kind : new String[] {"pond", "lane"}) {
            MovedFold fold = Check.told("field 3 1;" + kind + " 1 0");
            for (int set = 0; set < 8; set++) {
                boolean isFold = set == 1 || set == 4;
                int needed = kind.equals("pond") ? 3 : 4;
                Check.due("9: " + set + " beside a " + kind, fold.sides(set), isFold ? needed : NONE);
                Check.due("10: " + set + " beside a " + kind, Long.bitCount(fold.edges(set)), isFold ? needed : 0);
                Check.due("11: " + set + " beside a " + kind, fold.yards(set), Integer.bitCount(set & 5));
            }
        }
    }

    /** "in one piece (by EDGES, HEDGE or not)". */
    private static void inOnePiece() {
        MovedFold fold = Check.told("field 5 2");
        Check.due("9: by a corner", fold.sides(1 | 64), NONE);
        Check.due("9: by the other corner", fold.sides(2 | 32), NONE);
        Check.due("9: the row's end and the next row's start", fold.sides(16 | 32), NONE);
        Check.due("9: one apart", fold.sides(1 | 4), NONE);
        Check.due("9: above", fold.sides(16 | 512), 6);
        Check.due("9: a bow", fold.sides(1 | 32 | 64 | 128 | 4), 12);
        Check.due("9: a bow with a gap", fold.sides(1 | 32 | 128 | 4), NONE);
        MovedFold snake = Check.told("field 2 5");
        Check.due("9: the longest way", snake.sides(1 | 2 | 8 | 32 | 16 | 64 | 256 | 512), 18);
        Check.tell(snake, "hedge 0 0 right;hedge 0 0 down");
        Check.due("9: across a hedge", snake.sides(3), 5);
        Check.due("9: across a hedge downward", snake.sides(5), 5);
        Check.due("9: across two hedges", snake.sides(7), 8);
        MovedFold row = Check.told("field 10 1;hedge 4 0 right");
        Check.due("9: from end to end across a hedge", row.sides(1023), 22);
        Check.due("9: without one in the middle", row.sides(1023 & ~32), NONE);
        MovedFold column = Check.told("field 1 10");
        Check.due("9: from top to bottom", column.sides(1023), 22);
        Check.due("9: without the last but one", column.sides(1023 & ~256), NONE);
    }

    /** "It NEEDS a hurdle on each EDGE with just one side in it". */
    private static void justOneSide() {
        MovedFold fold = Check.told("field 3 3");
        Check.due("10: the middle", fold.edges(16), 1L << 5 | 1L << 6 | 1L << 16 | 1L << 19);
        Check.due("10: the ring: what is outside, and the middle", fold.edges(511 & ~16),
            1L | 1L << 3 | 1L << 4 | 1L << 7 | 1L << 8 | 1L << 11 | 7L << 12 | 7L << 21
                | 1L << 5 | 1L << 6 | 1L << 16 | 1L << 19);
        Check.due("10: all: what is outside", fold.edges(511),
            1L | 1L << 3 | 1L << 4 | 1L << 7 | 1L << 8 | 1L << 11 | 7L << 12 | 7L << 21);
        MovedFold row = Check.told("field 10 1");
        Check.due("10: bit 30", row.edges(512), 1L << 9 | 1L << 10 | 1L << 20 | 1L << 30);
        Check.due("10: the most", row.edges(1023), 1L | 1L << 10 | 1023L << 11 | 1023L << 21);
    }

    /** "but not where that is HEDGE, nor where the other side is POND". */
    private static void hedgesAndPonds() {
        MovedFold fold = Check.told("field 3 1");
        Check.due("9: 4 sides", fold.sides(2), 4);
        Check.tell(fold, "hedge 1 0 up");
        Check.due("9: a hedge outside", fold.sides(2), 3);
        Check.tell(fold, "hedge 0 0 right");
        Check.due("9: a hedge between", fold.sides(2), 2);
        Check.due("9: it is a hedge from there too", fold.sides(1), 3);
        Check.due("9: within a fold it is nothing", fold.sides(3), 5);
        Check.tell(fold, "pond 2 0");
        Check.due("9: and a pond", fold.sides(2), 1);
        Check.due("10: what is left", fold.edges(2), 1L << 8);
        Check.tell(fold, "hedge 1 0 right");
        Check.due("9: a hedge on the pond's edge counts once", fold.sides(2), 1);
        Check.tell(fold, "hedge 1 0 down");
        Check.due("9: none at all", fold.sides(2), 0);
        Check.due("10: none at all", fold.edges(2), 0);
        Check.tell(fold, "lane 2 0;open 1 0 right");
        Check.due("9: a lane is no side", fold.sides(2), 1);
        Check.tell(fold, "open 0 0 right;open 1 0 up;open 1 0 down");
        Check.due("9: all opened", fold.sides(2), 4);
        MovedFold lake = Check.told("field 3 3;pond 1 1");
        Check.due("9: a ring round a pond", lake.sides(511 & ~16), 12);
        Check.due("9: above a pond", lake.sides(2), 3);
        Check.due("9: left of a pond", lake.sides(8), 3);
        Check.due("9: by a pond's corner", lake.sides(1), 4);
    }

    /** "YARDS of it: those of its SQUARES"; "YARDS of a set (whether a FOLD or not)". */
    private static void yardsOfSets() {
        MovedFold fold = rich();
        Check.due("11: the most that there are", fold.yards(1023), 90);
        Check.due("11: all but one", fold.yards(1022), 81);
        Check.due("11: in pieces", fold.yards(0b1010101010), 45);
        Check.tell(fold, "yards 0 0 0;pond 1 0;lane 2 0");
        Check.due("11: 0, pond and lane", fold.yards(7), 0);
        Check.due("11: with one more", fold.yards(15), 9);
        Check.due("11: all that is left", fold.yards(1023), 63);
    }

    /** "The ROW has one more: how many NIGHTS. .. FULL: 20. (It need not be a FOLD.)" */
    private static void rowOfTwenty() {
        MovedFold fold = Check.told("field 2 1;pond 1 0");
        int[] sets = {0, 1, 2, 3};
        for (int night = 0; night < 20; night++) {
            Check.due("12: night " + night, fold.fold(sets[night % 4]), night + 1);
            Check.due("25: behind night " + night, fold.count(4), night + 1);
        }
        Check.due("12: a 21st", fold.fold(1), FULL);
        Check.due("12: a 21st that is no fold", fold.fold(0), FULL);
        Check.due("12: OUTSIDE is ahead of FULL", fold.fold(4), OUTSIDE);
        Check.due("12: OUTSIDE below 0 is ahead of FULL", fold.fold(-1), OUTSIDE);
        Check.due("25: still 20", fold.count(4), 20);
        Check.due("16: there is no night 20", fold.moved(20, 0), UNKNOWN);
        Check.due("13: 20 had been", fold.clear(), 20);
        Check.due("12: then there is room", fold.fold(1), 1);
    }

    /** "The ROW is empty: how many it had." */
    private static void cleared() {
        MovedFold fold = Check.told("field 2 1;hurdles 9;rest 3;want 2;frozen 1");
        Check.due("13: of an empty row", fold.clear(), 0);
        fold.fold(0);
        Check.due("13: of one", fold.clear(), 1);
        Check.due("13: again", fold.clear(), 0);
        Check.due("14: then it is good", fold.judge(), NONE);
        Check.due("15: then it is good", fold.why(), NONE);
        Check.due("16: then there is no night", fold.moved(0, 0), UNKNOWN);
        fold.fold(1);
        fold.fold(2);
        Check.write(fold, "rest 9");
        Check.due("13: of two", fold.clear(), 2);
        Check.due("13: the text stays", fold.count(3), 6);
        Check.due("13: the field stays", fold.count(0), 2);
        Check.due("13: the hurdles stay", fold.count(5), 9);
        Check.due("13: rest stays", fold.count(6), 3);
        Check.due("13: wants stay", fold.night(0, 0), 2);
        Check.due("13: frost stays", fold.night(1, 1), 1);
        fold.fold(3);
        Check.due("14: what was cleared is no night ahead", fold.judge(), NONE);
        Check.due("16: nor is it lifted from", fold.moved(0, 0), 6);
    }

    private static void judged(String call, MovedFold fold, int night, int why, int... row) {
        fold.clear();
        for (int set : row) {
            fold.fold(set);
        }
        Check.due("14: " + call, fold.judge(), night);
        Check.due("15: " + call, fold.why(), why);
        Check.due("14: " + call + ", asked again", fold.judge(), night);
        Check.due("14: " + call + ", the row stays", fold.count(4), row.length);
    }

    /** "The first NIGHT of the ROW that is not as it must be ..; NONE": an empty ROW has none. */
    private static void goodWithoutFolds() {
        judged("an empty row", new MovedFold(), NONE, NONE);
        judged("an empty row that has nothing", Check.told("pond 0 0;hurdles 0;want 90;frozen 0"), NONE, NONE);
        judged("one night", new MovedFold(), NONE, NONE, 1);
        judged("the same again", new MovedFold(), 1, 4, 1, 1);
    }

    /** "NEEDS HURDLES at most". */
    private static void hurdlesAtMost() {
        MovedFold fold = Check.told("field 3 1");
        int[] sets = {1, 3, 7};
        for (int i = 0; i < 3; i++) {
            int needed = 4 + 2 * i;
            Check.tell(fold, "hurdles " + needed);
            judged(needed + " for " + sets[i], fold, NONE, NONE, sets[i]);
            Check.tell(fold, "hurdles " + (needed - 1));
            judged(needed - 1 + " for " + sets[i], fold, 0, 1, sets[i]);
        }
        Check.tell(fold, "hurdles 0");
        judged("none for one square", fold, 0, 1, 1);
        Check.tell(fold, "hedge 0 0 left;hedge 0 0 right;hedge 0 0 up;hedge 0 0 down");
        judged("none where none is needed", fold, NONE, NONE, 1);
        Check.tell(fold, "hurdles 4");
        judged("each night has all hurdles", fold, NONE, NONE, 1, 2, 4);
        Check.tell(fold, "hurdles 2");
        judged("too many in a later night", fold, 1, 1, 1, 2, 4);
        Check.tell(fold, "field 10 1;hurdles 22");
        judged("the most that a fold can need", fold, NONE, NONE, 1023);
        Check.tell(fold, "hurdles 21");
        judged("one less than the most", fold, 0, 1, 1023);
    }

    /** "has as many YARDS as its NIGHT WANTS, or more". */
    private static void yardsOrMore() {
        MovedFold fold = Check.told("field 2 1;yards 0 0 4;yards 1 0 0;want 4");
        judged("as many", fold, NONE, NONE, 1);
        Check.tell(fold, "thaw;want 3");
        judged("more", fold, NONE, NONE, 1);
        Check.tell(fold, "thaw;want 5");
        judged("one less", fold, 0, 2, 1);
        Check.tell(fold, "thaw;want 0");
        judged("0 of 0", fold, NONE, NONE, 2);
        Check.tell(fold, "thaw");
        judged("0 of 1 without", fold, 0, 2, 2);
        Check.tell(fold, "yards 1 0 1");
        judged("1 of 1 without", fold, NONE, NONE, 2);
        MovedFold rich = rich();
        Check.tell(rich, "want 90");
        judged("90 of 90", rich, NONE, NONE, 1023);
        judged("81 of 90", rich, 0, 2, 511);
        Check.tell(rich, "yards 0 0 8");
        judged("89 of 90", rich, 0, 2, 1023);
    }

    /** "NIGHT i: entry i modulo how many there are". */
    private static void wantsByNight() {
        MovedFold fold = Check.told("field 10 1;rest 1;want 1;want 1;want 1;want 1;want 1;want 1;want 2");
        judged("the 7th night wants 2", fold, 6, 2, 1, 2, 1, 2, 1, 2, 1);
        judged("it has 2, the 8th wants 1", fold, NONE, NONE, 1, 2, 1, 2, 1, 2, 12, 2);
        judged("the 14th wants 2 again", fold, 13, 2, 1, 2, 1, 2, 1, 2, 12, 2, 1, 2, 1, 2, 1, 2);
        Check.tell(fold, "want 3");
        judged("an eighth was passed over", fold, NONE, NONE, 1, 2, 1, 2, 1, 2, 12, 2);
        Check.tell(fold, "thaw;want 0;want 2;frozen 1");
        judged("a frozen night wants as well", fold, 1, 2, 1, 1);
        judged("a frozen night that has enough", fold, NONE, NONE, 3, 3);
    }

    /** "on a FROZEN NIGHT (not 0) it is that of the NIGHT ahead, else (NIGHT 0 apart) .."; "3 FROZEN and moved". */
    private static void frozenNotZero() {
        MovedFold fold = Check.told("field 3 1;frozen 0");
        judged("night 0 is as any", fold, NONE, NONE, 1);
        judged("night 0 is as any, and night 1", fold, NONE, NONE, 1, 2);
        judged("night 0 alone is frozen: the same", fold, 1, 4, 1, 1);
        Check.tell(fold, "frozen 1");
        judged("the same in frost, not fresh", fold, NONE, NONE, 1, 1);
        judged("moved in frost", fold, 1, 3, 1, 2);
        judged("grown in frost", fold, 1, 3, 1, 3);
        judged("shrunk in frost", fold, 1, 3, 3, 1);
        judged("far and in frost", fold, 1, 3, 1, 4);
        judged("behind the frost the same", fold, 2, 4, 1, 1, 1);
        judged("behind the frost beside", fold, NONE, NONE, 1, 1, 2);
        Check.tell(fold, "frozen 2");
        judged("two nights of frost", fold, NONE, NONE, 1, 1, 1, 2);
        judged("moved in the second", fold, 2, 3, 1, 1, 2);
        Check.tell(fold, "thaw");
        judged("thawed", fold, 1, 4, 1, 1);
    }

    /** "FROZEN are NIGHTS 0 .. 19": the last NIGHT that a ROW can have. */
    private static void frozenLastNight() {
        MovedFold fold = Check.told("field 2 1;rest 1");
        int[] row = new int[20];
        for (int i = 0; i < 20; i++) {
            row[i] = 1 + i % 2;
        }
        judged("20 nights to and fro", fold, NONE, NONE, row);
        Check.tell(fold, "frozen 19");
        judged("the last is frozen and moved", fold, 19, 3, row);
        row[19] = row[18];
        judged("the last is frozen and the same", fold, NONE, NONE, row);
        Check.tell(fold, "thaw");
        judged("the last is thawed and the same", fold, 19, 4, row);
    }

    /** "some SQUARE of it that is not in the FOLD ahead lies beside one of that which is not in it"; "(or the same)". */
    private static void besideAndNotBoth() {
        MovedFold fold = Check.told("field 3 3;rest 1");
        judged("on the left", fold, NONE, NONE, 16, 8);
        judged("on the right", fold, NONE, NONE, 16, 32);
        judged("above", fold, NONE, NONE, 16, 2);
        judged("below", fold, NONE, NONE, 16, 128);
        for (int corner : new int[] {1, 4, 64, 256}) {
            judged("by a corner " + corner, fold, 1, 4, 16, corner);
        }
        judged("the row's end and the next row's start", fold, 1, 4, 4, 8);
        judged("the same", fold, 1, 4, 16, 16);
        judged("the same and more", fold, 1, 4, 16, 48);
        judged("a part of it", fold, 1, 4, 48, 16);
        judged("a square of both between", fold, 1, 4, 3, 6);
        judged("a square of both, and others beside", fold, 1, 5, 3 | 8, 2 | 4 | 16);
        Check.tell(fold, "hedge 1 1 left");
        judged("a hedge between", fold, NONE, NONE, 16, 8);
        Check.tell(fold, "pond 1 1");
        judged("a pond between", fold, 1, 4, 8, 32);
    }

    /** "it has no SQUARE of a FOLD of the last REST NIGHTS". */
    private static void lastRestNights() {
        MovedFold fold = Check.told("field 5 2");
        int[] ring = {1, 2, 4, 8, 16, 512, 256, 128, 64, 32, 1};
        for (int rest = 1; rest <= 9; rest++) {
            Check.tell(fold, "rest " + rest);
            judged("round in 10 nights, rest " + rest, fold, NONE, NONE, ring);
        }
        Check.tell(fold, "rest 10");
        judged("round in 10 nights, rest 10", fold, 10, 5, ring);
        Check.tell(fold, "rest 1");
        judged("back after one night", fold, NONE, NONE, 1, 2, 1);
        Check.tell(fold, "rest 2");
        judged("back after one night, rest 2", fold, 2, 5, 1, 2, 1);
        judged("back after two nights, rest 2", fold, NONE, NONE, 1, 2, 64, 32, 1);
        judged("one square of it is not fresh", fold, 2, 5, 1, 2, 1 | 32);
        Check.tell(fold, "rest 3;frozen 2");
        judged("a frozen night is one of the last", fold, 3, 5, 1, 2, 2, 1);
        Check.tell(fold, "rest 2");
        judged("a frozen night makes the other older", fold, NONE, NONE, 1, 2, 2, 1);
    }

    /** "(of any NIGHT ahead, if REST is 0)". */
    private static void anyNightAhead() {
        MovedFold fold = Check.told("field 5 2");
        int[] ring = {1, 2, 4, 8, 16, 512, 256, 128, 64, 32, 1};
        judged("round in 10 nights, no rest told", fold, 10, 5, ring);
        Check.tell(fold, "rest 4;rest 0");
        judged("round in 10 nights, rest 0", fold, 10, 5, ring);
        ring[10] = 0;
        judged("all had, then nothing", fold, 10, 0, ring);
        Check.tell(fold, "frozen 1;frozen 2;frozen 3;frozen 4");
        judged("of the first night, after frost", fold, 6, 5, 1, 1, 1, 1, 1, 2, 1);
    }

    /** "REST is 0 .. 99": more than there are NIGHTS. */
    private static void longestRest() {
        StringBuilder frost = new StringBuilder("field 2 1");
        for (int night = 1; night <= 8; night++) {
            frost.append(";frozen ").append(night);
        }
        MovedFold fold = Check.told(frost.toString());
        Check.tell(fold, "frozen 9;frozen 10;frozen 11;frozen 12;frozen 13;frozen 14;frozen 15;frozen 16;frozen 17");
        int[] row = new int[20];
        for (int i = 0; i < 20; i++) {
            row[i] = 1;
        }
        row[18] = 2;
        for (int rest : new int[] {0, 2, 18, 19, 20, 99}) {
            Check.tell(fold, "rest " + rest);
            judged("night 19, rest " + rest, fold, 19, 5, row);
        }
        Check.tell(fold, "rest 1");
        judged("night 19, rest 1", fold, NONE, NONE, row);
    }

    /** "0 no FOLD, 1 too many NEEDED, 2 too few YARDS, 3 FROZEN and moved, 4 not beside, 5 not fresh (the first of these)". */
    private static void firstReason() {
        MovedFold fold = Check.told("field 5 1;hurdles 5;want 1;want 3;frozen 1;yards 4 0 0");
        judged("0 ahead of 1 to 5", fold, 1, 0, 1, 1 | 4);
        judged("1 ahead of 2 and 3", fold, 1, 1, 1, 3);
        judged("2 ahead of 3", fold, 1, 2, 1, 8);
        Check.tell(fold, "hurdles 60");
        judged("2 ahead of 3, with hurdles", fold, 1, 2, 1, 3);
        judged("3 ahead of 4", fold, 1, 3, 1, 28 | 2);
        Check.tell(fold, "thaw;hurdles 5");
        judged("1 ahead of 4", fold, 1, 1, 1, 12);
        judged("2 ahead of 4", fold, 1, 2, 1, 16);
        judged("4 ahead of 5", fold, 1, 4, 1, 1);
        judged("5", fold, 2, 5, 1, 2, 1);
        Check.tell(fold, "frozen 2");
        judged("3 ahead of 5", fold, 2, 3, 1, 2, 1);
    }

    /** "The first NIGHT of the ROW that is not as it must be". */
    private static void firstNight() {
        MovedFold fold = Check.told("field 5 1");
        judged("the first of three", fold, 1, 4, 1, 4, 0, 16);
        judged("the first of all", fold, 0, 0, 0, 1, 1);
        judged("the last", fold, 4, 0, 1, 2, 4, 8, 0);
        judged("none", fold, NONE, NONE, 1, 2, 4, 8, 16);
        judged("a night ahead that is no fold is the first", fold, 0, 0, 5, 2);
    }

    /** "UNKNOWN; OUTSIDE": a NIGHT that the ROW has not, then another what. */
    private static void movedRefused() {
        MovedFold fold = Check.told("field 2 1");
        for (int many = 0; many <= 20; many++) {
            Check.due("16: night " + many + " of " + many, fold.moved(many, 0), UNKNOWN);
            Check.due("16: night " + many + " of " + many + ", carried", fold.moved(many, 1), UNKNOWN);
            Check.due("16: night " + many + " of " + many + ", what 2", fold.moved(many, 2), UNKNOWN);
            if (many < 20) {
                fold.fold(1 + many % 2);
                Check.due("16: night " + many + ", lifted", fold.moved(many, 0), many == 0 ? 4 : 3);
                Check.due("16: night " + many + ", what 2", fold.moved(many, 2), OUTSIDE);
                Check.due("16: night " + many + ", what -1", fold.moved(many, -1), OUTSIDE);
            }
        }
        for (int night : new int[] {-1, 20, 21, LEAST, MOST}) {
            Check.due("16: night " + night, fold.moved(night, 0), UNKNOWN);
            Check.due("16: night " + night + ", what LEAST", fold.moved(night, LEAST), UNKNOWN);
        }
        Check.due("16: what LEAST", fold.moved(0, LEAST), OUTSIDE);
        Check.due("16: what MOST", fold.moved(19, MOST), OUTSIDE);
    }

    /** "NONE: that, or the one ahead, is no FOLD". */
    private static void movedWithoutFold() {
        MovedFold fold = Check.told("field 3 1");
        for (int set : new int[] {0, 1, 5, 2, 4}) {
            fold.fold(set);
        }
        int[] due = {NONE, NONE, NONE, NONE, 3};
        for (int night = 0; night < due.length; night++) {
            Check.due("16: lifted in night " + night, fold.moved(night, 0), due[night]);
            Check.due("16: carried in night " + night, fold.moved(night, 1), due[night] == NONE ? NONE : 2 + 2 + 4);
        }
        Check.due("16: OUTSIDE ahead of NONE", fold.moved(0, 2), OUTSIDE);
        Check.tell(fold, "pond 1 0");
        Check.due("16: the one ahead is a pond now", fold.moved(4, 0), NONE);
        Check.due("16: it itself is a pond now", fold.moved(3, 1), NONE);
        MovedFold good = Check.told("field 2 1;hurdles 0;want 90");
        good.fold(1);
        Check.due("16: a fold that is not good is a fold", good.moved(0, 0), 4);
    }

    /** "LIFTED to a FOLD from the one ahead: EDGES that it NEEDS and that one not (of the first: all)". */
    private static void liftedFromAhead() {
        MovedFold fold = Check.told("field 3 2");
        int[] row = {1, 1, 3, 1, 2, 16, 56, 7, 63, 16, 4};
        // 63 behind 7: the three sides of the lower row; 16 in 63: all but the one below it
        int[] due = {4, 0, 3, 1, 3, 3, 6, 5, 5, 3, 4};
        for (int set : row) {
            fold.fold(set);
        }
        for (int night = 0; night < row.length; night++) {
            Check.due("16: lifted in night " + night, fold.moved(night, 0), due[night]);
        }
        Check.tell(fold, "hedge 0 0 left;pond 1 0");
        Check.due("16: without the hedge and the pond's side", fold.moved(0, 0), 2);
        MovedFold free = Check.told("hedge 0 0 left;hedge 0 0 right;hedge 0 0 up;hedge 0 0 down");
        free.fold(1);
        Check.due("16: none is lifted where none is needed", free.moved(0, 0), 0);
        Check.due("16: none is carried either", free.moved(0, 1), 0);
    }

    /** "THE HEAP (as many as one likes) at the corner of SQUARE 0, left and above"; "in half SQUARES (an EDGE is at its middle)". */
    private static void carriedFromTheHeap() {
        for (int w = 1; w <= 10; w++) {
            for (int h = 1; w * h <= 10; h++) {
                MovedFold fold = Check.told("field " + w + " " + h);
                for (int y = 0; y < h; y++) {
                    for (int x = 0; x < w; x++) {
                        fold.clear();
                        fold.fold(1 << w * y + x);
                        // left, right: 2x and 2x + 2 with 2y + 1; above, below: 2y and 2y + 2 with 2x + 1
                        Check.due("16: to " + x + " " + y + " in " + w + " by " + h, fold.moved(0, 1), 8 * x + 8 * y + 8);
                    }
                }
            }
        }
        MovedFold row = Check.told("field 10 1");
        row.fold(1023);
        // the ends 1 and 21; above 1, 3 .. 19, below 2 more each
        Check.due("16: all 22 from the heap", row.moved(0, 1), 1 + 21 + 100 + 120);
    }

    /** "each of these gets a hurdle from an EDGE that the one ahead NEEDED and this one not, or from THE HEAP"; "the least together". */
    private static void carriedFromEdges() {
        MovedFold fold = Check.told("field 5 2");
        for (int set : new int[] {1, 1, 2, 1, 16, 512, 3, 1, 31, 992}) {
            fold.fold(set);
        }
        Check.due("16: the same again", fold.moved(1, 1), 0);
        Check.due("16: one on: above and below 2 each, the left edge 4", fold.moved(2, 1), 2 + 2 + 4);
        Check.due("16: back: left and above from the heap, below from beside", fold.moved(3, 1), 1 + 1 + 2);
        Check.due("16: four squares on, each edge", fold.moved(4, 1), 4 * 8);
        Check.due("16: one down: left and right 2 each, above to below 4", fold.moved(5, 1), 2 + 2 + 4);
        Check.due("16: all from the heap, though edges are free", fold.moved(6, 1), 1 + 5 + 1 + 3 + 3 + 5);
        Check.due("16: one edge alone, from a nearer one than the heap", fold.moved(7, 1), 2);
        Check.due("16: a row over: the ends 2 each, five of 4", fold.moved(9, 1), 2 + 2 + 5 * 4);
        MovedFold small = Check.told("field 2 1");
        small.fold(1);
        small.fold(3);
        // lifted: above 1 (3 from the heap, 2 from the edge between), below 1 (5, 2), right (5, 2): one edge is free
        Check.due("16: an edge gives one hurdle", small.moved(1, 1), 3 + 5 + 5 - 3);
        Check.tell(small, "hedge 0 0 right");
        Check.due("16: a hedge gives none", small.moved(1, 1), 3 + 5 + 5);
    }

    private static void carriedDue(String field, int ahead, int set, int due) {
        MovedFold fold = Check.told(field);
        fold.fold(ahead);
        fold.fold(set);
        Check.due("16: carried from " + ahead + " to " + set + " in " + field, fold.moved(1, 1), due);
    }

    /** "the least together": where each edge by itself would take its nearest, it would be more. */
    private static void carriedLeastTogether() {
        // from the heap 24; the edge right of 1 saves 5 of the 7 to one far end, that on its left 3 of the other 7
        carriedDue("field 3 1", 2, 7, 24 - 5 - 3);
        // from the heap 3 + 5 + 3; the edge above 3 saves most on the right
        carriedDue("field 2 2", 8, 10, 3 + 2 + 3);
        // to the right end from the edge right of 2, above and below 3 from above and below 1, left of 2 from 0's
        carriedDue("field 4 1", 7, 12, 2 + 4 + 4 + 4);
        // right of 3 from right of 1, below 3 from above 1, below 2 from below 0, the others from the heap
        carriedDue("field 2 2", 3, 13, 2 + 4 + 2 + 3 + 3);
        // two squares on, and three: each edge as far
        carriedDue("field 5 1", 1, 4, 4 * 4);
        carriedDue("field 5 1", 3, 24, 6 * 6);
        // the edge between stays; the left end goes to the right one
        carriedDue("field 4 1", 3, 12, 4 * 4 + 8);
        carriedDue("field 3 2", 3, 25, 2 + 4 + 2 + 3 + 3);
    }

    /** Ten squares of 9 yards each, by two texts. */
    private static MovedFold rich() {
        MovedFold fold = Check.told("field 10 1");
        Check.tell(fold, "yards 0 0 9;yards 1 0 9;yards 2 0 9;yards 3 0 9;yards 4 0 9");
        Check.tell(fold, "yards 5 0 9;yards 6 0 9;yards 7 0 9;yards 8 0 9;yards 9 0 9");
        return fold;
    }
}
