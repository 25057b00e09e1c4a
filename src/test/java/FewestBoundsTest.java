/** Promises 17 to 25 at their bounds: each method has the document's sentence that it looks at. */
final class FewestBoundsTest {
    private static final int NONE = -1, OUTSIDE = -3;
    private static final int LEAST = Integer.MIN_VALUE, MOST = Integer.MAX_VALUE;
    private static final String[] FIELDS = {
        "field 1 1", "field 3 3;pond 1 1", "field 5 2;lane 2 0;yards 4 1 0", "field 2 5;hedge 0 0 left;yards 1 4 9",
        "field 10 1;pond 0 0;lane 9 0", "field 4 2;yards 0 0 0;yards 3 1 0;hedge 1 0 down;pond 2 1"};

    public static void main(String[] args) {
        fewYardsAtLeast();
        fewLeastNumber();
        fewWithoutFold();
        twoYardsAtLeast();
        twoNeedOneBetween();
        twoLeastFirstThenSecond();
        twoWithoutRoom();
        fewestAndItsBounds();
        courseOfOne();
        eachWithYardsButTheLast();
        besideTheLast();
        squaresWithoutYards();
        fewestIsTheLeast();
        bestRefused();
        bestByNumber();
        bestFirstOfSeveral();
        coursesCounted();
        coursesRefused();
        roundMoreAndLess();
        roundWithoutCourse();
        brokenBounds();
        lastStripHasThoseLeft();
        stripsUpAndDown();
        snailWithin();
        waysOfEachSize();
        goesWithoutFold();
        goesRefused();
        countsAtTheirBounds();
        fieldsOneAfterAnother();
        fiveHundredAndTwelve();
        Check.end();
    }

    private static void fewDue(MovedFold fold, int n, int set, int needed) {
        Check.due("17: few(" + n + ", 0)", fold.few(n, 0), set);
        Check.due("17: few(" + n + ", 1)", fold.few(n, 1), needed);
    }

    /** "FEW for n YARDS (0 .. 90) .. of those with n YARDS at least"; "NONE. OUTSIDE". */
    private static void fewYardsAtLeast() {
        MovedFold fold = rich();
        fewDue(fold, 0, 1, 4);
        fewDue(fold, 9, 1, 4);
        fewDue(fold, 10, 3, 6);
        fewDue(fold, 81, 511, 20);
        fewDue(fold, 82, 1023, 22);
        fewDue(fold, 90, 1023, 22);
        for (int n : new int[] {-1, 91, LEAST, MOST}) {
            fewDue(fold, n, OUTSIDE, OUTSIDE);
        }
        for (int what : new int[] {-1, 2, LEAST, MOST}) {
            Check.due("17: what " + what, fold.few(0, what), OUTSIDE);
            Check.due("17: what " + what + " where there is none", new MovedFold().few(90, what), OUTSIDE);
        }
        Check.tell(fold, "yards 9 0 8");
        fewDue(fold, 89, 1023, 22);
        fewDue(fold, 90, NONE, NONE);
    }

    /** "the FOLD that NEEDS fewest ..; of several the least number". */
    private static void fewLeastNumber() {
        MovedFold fold = Check.told("field 3 2");
        fewDue(fold, 1, 1, 4);
        fewDue(fold, 2, 3, 6);
        // 0 1 2 and 0 1 3 4 need 8 alike
        fewDue(fold, 3, 7, 8);
        fewDue(fold, 4, 27, 8);
        fewDue(fold, 6, 63, 10);
        Check.tell(fold, "hedge 2 1 down");
        fewDue(fold, 1, 32, 3);
        Check.tell(fold, "hedge 1 0 up");
        fewDue(fold, 1, 2, 3);
        Check.tell(fold, "hedge 2 0 up");
        // the two upper ones between hedges need 4, one of them 3
        fewDue(fold, 2, 6, 4);
        // a fold with more yards that needs fewer than all with just enough
        MovedFold hedged = Check.told("field 2 1;hedge 0 0 up;hedge 0 0 down;hedge 0 0 left;hedge 1 0 up;hedge 1 0 down;hedge 1 0 right");
        fewDue(hedged, 0, 3, 0);
        fewDue(hedged, 1, 3, 0);
    }

    /** "NONE": no FOLD at all, or none with so many YARDS. */
    private static void fewWithoutFold() {
        fewDue(Check.told("pond 0 0"), 0, NONE, NONE);
        fewDue(Check.told("lane 0 0"), 0, NONE, NONE);
        MovedFold bare = Check.told("yards 0 0 0");
        fewDue(bare, 0, 1, 4);
        fewDue(bare, 1, NONE, NONE);
        MovedFold cut = Check.told("field 3 1;lane 1 0;yards 0 0 5;yards 2 0 6");
        fewDue(cut, 5, 1, 4);
        fewDue(cut, 6, 4, 4);
        fewDue(cut, 7, NONE, NONE);
    }

    private static void twoDue(MovedFold fold, int a, int b, int first, int second, int needed) {
        String call = "18: two(" + a + ", " + b + ", ";
        Check.due(call + "0)", fold.two(a, b, 0), first);
        Check.due(call + "1)", fold.two(a, b, 1), second);
        Check.due(call + "2)", fold.two(a, b, 2), needed);
    }

    /** "two FOLDS, no SQUARE in both, with a and b YARDS at least"; "OUTSIDE: a, b (0 .. 90), what". */
    private static void twoYardsAtLeast() {
        MovedFold fold = rich();
        twoDue(fold, 0, 0, 1, 2, 7);
        twoDue(fold, 9, 9, 1, 2, 7);
        twoDue(fold, 10, 9, 3, 4, 9);
        twoDue(fold, 9, 10, 1, 6, 9);
        twoDue(fold, 81, 9, 511, 512, 23);
        twoDue(fold, 9, 81, 1, 1022, 23);
        twoDue(fold, 45, 45, 31, 992, 23);
        twoDue(fold, 81, 10, NONE, NONE, NONE);
        twoDue(fold, 82, 0, NONE, NONE, NONE);
        twoDue(fold, 0, 82, NONE, NONE, NONE);
        twoDue(fold, 90, 90, NONE, NONE, NONE);
        for (int wrong : new int[] {-1, 91, LEAST, MOST}) {
            twoDue(fold, wrong, 0, OUTSIDE, OUTSIDE, OUTSIDE);
            twoDue(fold, 0, wrong, OUTSIDE, OUTSIDE, OUTSIDE);
            twoDue(fold, wrong, wrong, OUTSIDE, OUTSIDE, OUTSIDE);
        }
        for (int what : new int[] {-1, 3, LEAST, MOST}) {
            Check.due("18: what " + what, fold.two(0, 0, what), OUTSIDE);
            Check.due("18: what " + what + " where there are none", fold.two(90, 90, what), OUTSIDE);
        }
    }

    /** "EDGES that one of them NEEDS or both .. (by both: an EDGE between them NEEDS one)". */
    private static void twoNeedOneBetween() {
        MovedFold fold = Check.told("field 2 1");
        twoDue(fold, 1, 1, 1, 2, 7);
        Check.tell(fold, "hedge 0 0 right");
        twoDue(fold, 1, 1, 1, 2, 6);
        MovedFold pond = Check.told("field 3 1;pond 1 0");
        twoDue(pond, 1, 1, 1, 4, 6);
        MovedFold square = Check.told("field 2 2");
        twoDue(square, 2, 2, 3, 12, 10);
        // the corner's two inner edges are needed by both
        twoDue(square, 3, 1, 7, 8, 10);
    }

    /** "of several the least first one, then the least second". */
    private static void twoLeastFirstThenSecond() {
        MovedFold fold = Check.told("field 3 1;pond 1 0;field 5 1;lane 1 0;lane 3 0");
        // each two of 1, 4, 16 need 8
        twoDue(fold, 0, 0, 1, 4, 8);
        Check.tell(fold, "hedge 0 0 up");
        twoDue(fold, 0, 0, 1, 4, 7);
        Check.tell(fold, "hedge 4 0 up");
        twoDue(fold, 0, 0, 1, 16, 6);
        Check.tell(fold, "hedge 2 0 up;hedge 2 0 down");
        twoDue(fold, 0, 0, 1, 4, 5);
        Check.tell(fold, "hedge 4 0 down");
        twoDue(fold, 0, 0, 4, 16, 4);
        Check.tell(fold, "yards 2 0 5");
        twoDue(fold, 0, 5, 16, 4, 4);
        twoDue(fold, 5, 0, 4, 16, 4);
    }

    /** "NONE": no two FOLDS. */
    private static void twoWithoutRoom() {
        twoDue(new MovedFold(), 0, 0, NONE, NONE, NONE);
        twoDue(Check.told("field 2 1;pond 0 0"), 0, 0, NONE, NONE, NONE);
        twoDue(Check.told("pond 0 0"), 0, 0, NONE, NONE, NONE);
        MovedFold bare = Check.told("field 2 1;yards 0 0 0");
        twoDue(bare, 0, 0, 1, 2, 7);
        twoDue(bare, 0, 1, 1, 2, 7);
        twoDue(bare, 1, 0, 2, 1, 7);
        twoDue(bare, 1, 1, NONE, NONE, NONE);
    }

    /** "FEWEST for w (1 .. 90); NONE. OUTSIDE." */
    private static void fewestAndItsBounds() {
        MovedFold fold = rich();
        int[][] due = {{1, 4}, {9, 4}, {10, 6}, {18, 6}, {19, 8}, {27, 8}, {28, 10}, {45, 12}, {46, 14}, {81, 20}, {82, 22}, {90, 22}};
        for (int[] d : due) {
            Check.due("19: fewest(" + d[0] + ")", fold.fewest(d[0]), d[1]);
        }
        for (int w : new int[] {0, -1, 91, LEAST, MOST}) {
            Check.due("19: fewest(" + w + ")", fold.fewest(w), OUTSIDE);
        }
        Check.tell(fold, "lane 5 0");
        Check.due("19: cut in two", fold.fewest(1), NONE);
        Check.due("19: cut in two, fewest(0)", fold.fewest(0), OUTSIDE);
        Check.due("19: 0 hurdles", Check.told("hedge 0 0 left;hedge 0 0 right;hedge 0 0 up;hedge 0 0 down").fewest(1), 0);
    }

    /** "A COURSE is a row of FOLDS, one at least". */
    private static void courseOfOne() {
        MovedFold bare = Check.told("yards 0 0 0");
        Check.due("19: nothing to be had, one fold still", bare.fewest(1), 4);
        Check.due("20: nothing to be had, lifted", bare.best(1, 60, -2), 4);
        Check.due("20: nothing to be had, one fold", bare.best(1, 60, -1), 1);
        Check.due("21: nothing to be had, one course", bare.courses(1, 60), 1);
        Check.due("21: nothing to be had, too few hurdles", bare.courses(1, 3), 0);
        MovedFold none = Check.told("field 2 1;pond 0 0;lane 1 0");
        Check.due("19: no fold", none.fewest(1), NONE);
        Check.due("20: no fold, lifted", none.best(1, 60, -2), NONE);
        Check.due("20: no fold, how many", none.best(1, 60, -1), NONE);
        Check.due("20: no fold, the first", none.best(1, 60, 0), NONE);
        Check.due("21: no fold", none.courses(1, 60), 0);
    }

    /** "each with w YARDS at least but the last". */
    private static void eachWithYardsButTheLast() {
        MovedFold fold = Check.told("field 2 1;yards 0 0 3;yards 1 0 1");
        // [1, 2], [2, 1], [3]
        Check.due("21: w 1", fold.courses(1, 60), 3);
        Check.due("21: w 2: the 1 yard comes last", fold.courses(2, 60), 2);
        Check.due("21: w 3: as many as w", fold.courses(3, 60), 2);
        Check.due("21: w 4: all at once", fold.courses(4, 60), 1);
        Check.due("21: w 5: the last need not", fold.courses(5, 60), 1);
        Check.due("21: w 90: the last need not", fold.courses(90, 60), 1);
        Check.due("19: w 3", fold.fewest(3), 4);
        Check.due("19: w 4", fold.fewest(4), 6);
        Check.due("20: w 3 with 4 hurdles, the first", fold.best(3, 4, 0), 1);
        Check.due("20: w 3 with 4 hurdles, the second", fold.best(3, 4, 1), 2);
        Check.tell(fold, "yards 0 0 1;yards 1 0 3");
        Check.due("20: the other first", fold.best(3, 4, 0), 2);
        Check.due("20: the other second", fold.best(3, 4, 1), 1);
        // a fold of 0 yards in between is too small for any w
        MovedFold gap = Check.told("field 3 1;yards 1 0 0");
        Check.due("21: over the gap with 1 2, 4 and the like", gap.courses(1, 60), 5);
        Check.due("21: not by single squares", gap.courses(1, 4), 0);
    }

    /** "each but the first with a SQUARE beside one of that ahead": of the last one, not of any. */
    private static void besideTheLast() {
        MovedFold fold = Check.told("field 3 1");
        Check.due("21: 1 2 4 and 4 2 1 alone by single squares", fold.courses(1, 4), 2);
        MovedFold star = Check.told("field 3 3;lane 0 0;lane 2 0;lane 0 2;lane 2 2");
        Check.due("21: no cross by single squares", star.courses(1, 4), 0);
        Check.due("21: no cross by twos", star.courses(1, 6), 0);
        Check.due("20: no best cross by single squares", star.best(1, 4, -2), NONE);
        Check.due("20: no best cross by twos", star.best(1, 7, -2), NONE);
        Check.due("20: a best cross", star.best(1, 8, -1), 3);
        Check.due("19: a cross", star.fewest(1), 8);
        MovedFold hedged = Check.told("field 2 1;hedge 0 0 right");
        Check.due("21: through a hedge", hedged.courses(1, 4), 2);
        // 16 behind 8 would lift as few as 32, but does not lie beside it
        MovedFold bend = Check.told("field 2 3;lane 1 0;hedge 1 2 up");
        int[] row = {1, 4, 8, 32, 16};
        for (int i = 0; i < row.length; i++) {
            Check.due("20: fold " + i + " beside the last", bend.best(1, 4, i), row[i]);
        }
        Check.due("20: lifted beside the last", bend.best(1, 4, -2), 4 + 3 + 2 + 3 + 3);
        MovedFold corner = Check.told("field 2 2;lane 1 0;lane 0 1");
        Check.due("21: not by a corner", corner.courses(1, 60), 0);
        MovedFold wrap = Check.told("field 2 2;lane 0 0;lane 1 1");
        Check.due("21: not from row's end to next row's start", wrap.courses(1, 60), 0);
    }

    /** "by which each SQUARE with YARDS above 0 is had. (SQUARES with 0 YARDS may be in FOLDS, and may be left.)" */
    private static void squaresWithoutYards() {
        MovedFold fold = Check.told("field 3 1;yards 0 0 0;yards 2 0 0");
        // 2, 3, 6, 7 alone; 2 then 1 or 4; 3 then 4; 6 then 1
        Check.due("21: with, without, behind", fold.courses(1, 60), 8);
        Check.due("21: only 2, or 2 and one behind it", fold.courses(1, 4), 3);
        Check.due("21: w 2: nothing goes on", fold.courses(2, 60), 4);
        Check.due("20: it is left", fold.best(1, 60, 0), 2);
        Check.due("20: and it ends there", fold.best(1, 60, -1), 1);
        Check.tell(fold, "yards 0 0 1");
        Check.due("19: 1 yard must be had", fold.fewest(2), 6);
        Check.tell(fold, "yards 0 0 0;hedge 0 0 up;hedge 0 0 down;hedge 0 0 left;hedge 1 0 up");
        // 2 needs 3 alone, with 1 it needs 2
        Check.due("20: it is in the fold where that lifts fewer", fold.best(1, 60, 0), 3);
        Check.due("19: and needs fewer", fold.fewest(1), 2);
    }

    /** "the least number of HURDLES with which there is a COURSE": with one less there is none. */
    private static void fewestIsTheLeast() {
        for (String field : FIELDS) {
            for (int w : new int[] {1, 2, 3, 5, 9, 90}) {
                MovedFold fold = Check.told(field);
                int least = fold.fewest(w);
                String call = " for " + w + " in " + field;
                Check.due("19: there is one" + call, least >= 2 ? 1 : 0, 1);
                Check.due("20: a best with as many" + call, fold.best(w, least, -2) > 0 ? 1 : 0, 1);
                Check.due("20: none with one less" + call, fold.best(w, least - 1, -2), NONE);
                Check.due("20: no fold with one less" + call, fold.best(w, least - 1, 0), NONE);
                Check.due("20: not how many with one less" + call, fold.best(w, least - 1, -1), NONE);
                Check.due("21: courses with as many" + call, fold.courses(w, least) > 0 ? 1 : 0, 1);
                Check.due("21: none with one less" + call, fold.courses(w, least - 1), 0);
                Check.due("23: broken by one less" + call, fold.broken(w, least), NONE);
                Check.due("23: with one more" + call, fold.broken(w, least + 1),
                    fold.best(w, least, -2) - fold.best(w, least + 1, -2));
                Check.due("19: asked again" + call, fold.fewest(w), least);
            }
        }
    }

    /** "BEST for w with n hurdles (0 .. 60): LIFTED (i -2), how many FOLDS (-1), or the i-th; .. OUTSIDE." */
    private static void bestRefused() {
        MovedFold fold = Check.told("field 3 1");
        for (int w : new int[] {0, -1, 91, LEAST, MOST}) {
            Check.due("20: w " + w, fold.best(w, 60, -2), OUTSIDE);
        }
        for (int n : new int[] {-1, 61, LEAST, MOST}) {
            Check.due("20: n " + n, fold.best(1, n, -2), OUTSIDE);
        }
        for (int i : new int[] {-3, -4, LEAST}) {
            Check.due("20: i " + i, fold.best(1, 60, i), OUTSIDE);
            Check.due("20: i " + i + " where there is none", fold.best(1, 0, i), OUTSIDE);
        }
        Check.due("20: w 1, n 60", fold.best(1, 60, -2), 8);
        Check.due("20: w 90, n 60", fold.best(90, 60, -2), 8);
        Check.due("20: n 60 again", fold.best(1, 60, -2), 8);
        Check.due("20: n 0", fold.best(1, 0, -2), NONE);
        MovedFold free = Check.told("hedge 0 0 left;hedge 0 0 right;hedge 0 0 up;hedge 0 0 down");
        Check.due("20: n 0 where none is needed", free.best(1, 0, -2), 0);
        Check.due("20: n 0 where none is needed, one fold", free.best(1, 0, -1), 1);
        Check.due("20: n 0 where none is needed, which", free.best(1, 0, 0), 1);
    }

    /** "NONE: there is none, or not so many". */
    private static void bestByNumber() {
        MovedFold fold = Check.told("field 10 1");
        Check.due("20: ten folds", fold.best(1, 4, -1), 10);
        Check.due("20: 4 and nine of 3", fold.best(1, 4, -2), 31);
        for (int i = 0; i < 10; i++) {
            Check.due("20: fold " + i, fold.best(1, 4, i), 1 << i);
        }
        for (int i : new int[] {10, 11, 60, MOST}) {
            Check.due("20: fold " + i, fold.best(1, 4, i), NONE);
        }
        Check.due("20: one fold", fold.best(1, 22, -1), 1);
        Check.due("20: the first of one", fold.best(1, 22, 0), 1023);
        Check.due("20: a second of one", fold.best(1, 22, 1), NONE);
        Check.due("20: one hurdle less makes two", fold.best(1, 21, -1), 2);
        Check.due("20: the second of two", fold.best(1, 21, 1), 1022);
        Check.due("20: a third of two", fold.best(1, 21, 2), NONE);
    }

    /** "of several the first by FOLDS' numbers (one with which another one begins is ahead of that)". */
    private static void bestFirstOfSeveral() {
        MovedFold fold = Check.told("field 3 1");
        // 1 6, 3 4, 4 3, 6 1 lift 9 each
        Check.due("20: the least first fold", fold.best(1, 6, 0), 1);
        Check.due("20: and what is left", fold.best(1, 6, 1), 6);
        Check.due("20: the least first fold of those with 2", fold.best(2, 6, 0), 3);
        MovedFold square = Check.told("field 2 2");
        // 1 2 8 4 and 1 4 8 2 lift alike
        int[] round = {1, 2, 8, 4};
        for (int i = 0; i < 4; i++) {
            Check.due("20: round " + i, square.best(1, 4, i), round[i]);
        }
        // behind square 0 the other needs nothing more: one with which another one begins
        MovedFold begun = Check.told("field 2 1;yards 1 0 0;hedge 1 0 right;hedge 1 0 up;hedge 1 0 down");
        Check.due("20: lifted", begun.best(1, 4, -2), 3);
        Check.due("20: by 3 without the edge between", begun.best(1, 4, 0), 3);
        Check.tell(begun, "hedge 1 0 left");
        Check.due("20: 1, 1 2 and 3 lift alike", begun.best(1, 4, -2), 3);
        Check.due("20: the first", begun.best(1, 4, 0), 1);
        Check.due("20: and no more", begun.best(1, 4, -1), 1);
    }

    /** "COURSES: how many there are". */
    private static void coursesCounted() {
        for (int n = 1; n <= 10; n++) {
            // along one row: to each set of cuts two ways, but one where nothing is cut
            MovedFold fold = Check.told("field " + n + " 1");
            Check.due("21: " + n + " in a row", fold.courses(1, 60), 2 * (1 << n - 1) - 1);
            Check.due("21: " + n + " in a row by one each", fold.courses(1, 4), n == 1 ? 1 : 2);
            Check.due("21: " + n + " in a column", Check.told("field 1 " + n).courses(1, 60), 2 * (1 << n - 1) - 1);
            if (n > 1) {
                Check.due("21: all at once, or all but an end first", fold.courses(n - 1, 60), 3);
            }
            Check.due("21: all at once", fold.courses(n, 60), 1);
            Check.due("21: one more than there is", fold.courses(n + 1, 60), 1);
            Check.due("21: just as many hurdles", fold.courses(90, 2 * n + 2), 1);
            Check.due("21: one less", fold.courses(90, 2 * n + 1), 0);
        }
        // all; a corner behind three; two halves, one behind the other
        MovedFold square = Check.told("field 2 2");
        Check.due("21: 2 by 2 all at once or in two", square.courses(2, 60), 1 + 4 + 4);
        Check.due("21: 2 by 2 by one each", square.courses(1, 4), 8);
    }

    /** "COURSES. OUTSIDE." with w 1 .. 90 and n 0 .. 60. */
    private static void coursesRefused() {
        MovedFold fold = Check.told("field 3 1");
        for (int wrong : new int[] {0, -1, 91, LEAST, MOST}) {
            Check.due("21: w " + wrong, fold.courses(wrong, 60), OUTSIDE);
        }
        for (int wrong : new int[] {-1, 61, LEAST, MOST}) {
            Check.due("21: n " + wrong, fold.courses(1, wrong), OUTSIDE);
        }
        Check.due("21: w 1, n 0", fold.courses(1, 0), 0);
        Check.due("21: w 1, n 60", fold.courses(1, 60), 7);
        Check.due("21: w 90, n 60", fold.courses(90, 60), 1);
        Check.due("21: n 0 where none is needed",
            Check.told("hedge 0 0 left;hedge 0 0 right;hedge 0 0 up;hedge 0 0 down").courses(1, 0), 1);
    }

    /** "ROUND: how many more FEWEST needs than if each POND and LANE were a SQUARE of 0 YARDS", "and 100". */
    private static void roundMoreAndLess() {
        Check.due("22: neither", Check.told("field 2 2").round(1), 100);
        Check.due("22: a pond is a side: 3, else 4", Check.told("field 2 1;pond 1 0").round(1), 99);
        Check.due("22: a lane is none: 4, else 4", Check.told("field 2 1;lane 1 0").round(1), 100);
        Check.due("22: four ponds: 0, else 4",
            Check.told("field 3 3;pond 1 0;pond 0 1;pond 2 1;pond 1 2;yards 0 0 0;yards 2 0 0;yards 0 2 0;yards 2 2 0").round(1), 96);
        MovedFold bow = Check.told("field 3 2;lane 1 0");
        Check.due("22: a bow: 12, else 10", bow.round(90), 102);
        Check.tell(bow, "pond 1 0");
        Check.due("22: a bow round a pond: 9, else 10", bow.round(90), 99);
        Check.tell(bow, "pond 1 0;hedge 1 0 up");
        // the hedge above the pond is a hedge without it too: all need 9 then
        Check.due("22: a hedge at the pond's other side", bow.round(90), 100);
        MovedFold both = Check.told("field 3 1;lane 0 0;pond 2 0");
        Check.due("22: both at once: 3, else 4", both.round(1), 99);
        MovedFold deep = Check.told("field 3 3;lane 1 0;lane 1 1");
        Check.due("22: a deep bow: 16, else 12", deep.round(90), 104);
    }

    /** "none, if one of both has none"; "NONE. OUTSIDE." */
    private static void roundWithoutCourse() {
        MovedFold cut = Check.told("field 3 1;lane 1 0");
        Check.due("22: none with the lane", cut.round(1), NONE);
        Check.due("22: none for any w", cut.round(90), NONE);
        Check.due("22: none at all", Check.told("pond 0 0").round(1), NONE);
        for (int w : new int[] {0, -1, 91, LEAST, MOST}) {
            Check.due("22: w " + w + " where there is none", cut.round(w), OUTSIDE);
            Check.due("22: w " + w, Check.told("field 2 1").round(w), OUTSIDE);
        }
        Check.due("6: the lane is still there", cut.square(1), 11);
        Check.due("9: and is no fold", cut.sides(2), NONE);
        Check.due("19: nor is there a course", cut.fewest(1), NONE);
        Check.due("21: not one", cut.courses(1, 60), 0);
        Check.tell(cut, "yards 1 0 0");
        Check.due("22: dried", cut.round(1), 100);
    }

    /** "BROKEN: how many more LIFTED BEST has with one hurdle less; none likewise", "n (1 .. 60) hurdles being there". */
    private static void brokenBounds() {
        MovedFold fold = Check.told("field 10 1");
        Check.due("23: n 60", fold.broken(1, 60), 0);
        Check.due("23: one more than all need", fold.broken(1, 23), 0);
        Check.due("23: as many as all need", fold.broken(1, 22), 1);
        Check.due("23: w 90 has none with less", fold.broken(90, 22), NONE);
        Check.due("23: w 90 with one more", fold.broken(90, 23), 0);
        Check.due("23: as many as one needs", fold.broken(1, 4), NONE);
        Check.due("23: one more than one needs", fold.broken(1, 5), 0);
        Check.due("23: two more", fold.broken(1, 6), 31 - 26);
        Check.due("23: n 1", fold.broken(1, 1), NONE);
        for (int n : new int[] {0, -1, 61, LEAST, MOST}) {
            Check.due("23: n " + n, fold.broken(1, n), OUTSIDE);
        }
        for (int w : new int[] {0, -1, 91, LEAST, MOST}) {
            Check.due("23: w " + w, fold.broken(w, 60), OUTSIDE);
        }
        MovedFold free = Check.told("hedge 0 0 left;hedge 0 0 right;hedge 0 0 up;hedge 0 0 down");
        Check.due("23: n 1 where none is needed", free.broken(1, 1), 0);
        Check.due("23: no course at all", Check.told("pond 0 0").broken(1, 60), NONE);
    }

    private static void goesDue(MovedFold fold, boolean snail, int k, int needed, int lifted) {
        String call = "24: goes(" + snail + ", " + k + ", ";
        Check.due(call + "0)", fold.goes(snail, k, 0), needed);
        Check.due(call + "1)", fold.goes(snail, k, 1), lifted);
    }

    /** "FOLDS of k SQUARES each (the last has those left)". */
    private static void lastStripHasThoseLeft() {
        for (boolean snail : new boolean[] {false, true}) {
            for (String field : new String[] {"field 10 1", "field 1 10"}) {
                MovedFold fold = Check.told(field);
                goesDue(fold, snail, 1, 4, 4 + 9 * 3);
                goesDue(fold, snail, 2, 6, 6 + 4 * 5);
                goesDue(fold, snail, 3, 8, 8 + 7 + 7 + 3);
                goesDue(fold, snail, 4, 10, 10 + 9 + 5);
                goesDue(fold, snail, 5, 12, 12 + 11);
                goesDue(fold, snail, 6, 14, 14 + 9);
                goesDue(fold, snail, 9, 20, 20 + 3);
                goesDue(fold, snail, 10, 22, 22);
            }
            MovedFold three = Check.told("field 3 1");
            goesDue(three, snail, 3, 8, 8);
            goesDue(three, snail, 4, 8, 8);
            goesDue(three, snail, 10, 8, 8);
            for (int n = 1; n <= 10; n++) {
                // one row or one column: there is no way back
                goesDue(Check.told("field " + n + " 1"), snail, n, 2 * n + 2, 2 * n + 2);
                goesDue(Check.told("field 1 " + n), snail, n, 2 * n + 2, 2 * n + 2);
                goesDue(Check.told("field " + n + " 1"), snail, 1, 4, 3 * n + 1);
                goesDue(Check.told("field 1 " + n), snail, 1, 4, 3 * n + 1);
            }
            goesDue(Check.told("hedge 0 0 left;hedge 0 0 right;hedge 0 0 up;hedge 0 0 down"), snail, 1, 0, 0);
            goesDue(new MovedFold(), snail, 1, 4, 4);
            goesDue(new MovedFold(), snail, 10, 4, 4);
        }
    }

    /** "along columns: the first downward, the next upward, and so on". */
    private static void stripsUpAndDown() {
        // two squares at a time, hedges tell which: 0 2 4 | 5 3 1 downward, then upward
        MovedFold fold = Check.told("field 2 3;hedge 0 2 down;hedge 1 2 down");
        // 0 2, then 4 5 (between two hedges: 4), then 3 1 (one edge of 4 5)
        goesDue(fold, false, 2, 6, 6 + 3 + 5);
        // 0 2 4 5, then 3 1 (three edges of the first)
        goesDue(fold, false, 4, 8, 8 + 3);
        MovedFold wide = Check.told("field 3 3");
        // 0 3 | 6 7 | 4 1 | 2 5 | 8
        goesDue(wide, false, 2, 6, 6 + 5 + 5 + 4 + 3);
        MovedFold flat = Check.told("field 5 2");
        // 0 5 6 | 1 2 7 | 8 3 4 | 9: behind each, the edges to the one ahead stand already
        goesDue(flat, false, 3, 8, 8 + 5 + 6 + 2);
        MovedFold flatDown = Check.told("field 5 2;hedge 4 1 right;hedge 4 1 down");
        goesDue(flatDown, false, 3, 8, 8 + 5 + 6 + 0);
    }

    /** "SNAIL: along the outer SQUARES from SQUARE 0: to the right, down, to the left, up, then on within". */
    private static void snailWithin() {
        MovedFold fold = Check.told("field 3 3;hedge 1 1 left");
        // 0 1 2 5 8 7 6 3, then 4 within: the ring needs 15, 4 none more
        goesDue(fold, true, 8, 15, 15);
        // 3 4 at last: the hedge is within it, and five of its six sides stand already
        goesDue(fold, true, 7, 16, 16 + 1);
        MovedFold low = Check.told("field 3 2");
        // 0 1 2 | 5 4 3
        goesDue(low, true, 3, 8, 8 + 5);
        goesDue(low, true, 5, 10, 10 + 2);
        MovedFold tall = Check.told("field 2 3");
        // 0 1 3 | 5 4 2
        goesDue(tall, true, 3, 8, 8 + 5);
        // 0 1 | 3 5 | 4 2
        goesDue(tall, true, 2, 6, 6 + 5 + 4);
    }

    /** Both ways in each field of two rows and two columns at least, written out, for each k. */
    private static void waysOfEachSize() {
        String[][] ways = {
            {"2 2", "0231", "0132"}, {"3 2", "034125", "012543"}, {"2 3", "024531", "013542"},
            {"4 2", "04512673", "01237654"}, {"2 4", "02467531", "01357642"}, {"3 3", "036741258", "012587634"},
            {"5 2", "0561278349", "0123498765"}, {"2 5", "0246897531", "0135798642"}};
        for (String[] way : ways) {
            for (int k = 1; k <= 10; k++) {
                MovedFold fold = Check.told("field " + way[0] + ";hedge 0 0 left;hedge 1 1 right;hedge 0 1 up");
                wayDue(fold, false, way[1], k);
                wayDue(fold, true, way[2], k);
            }
        }
    }

    private static void wayDue(MovedFold fold, boolean snail, String way, int k) {
        int most = 0;
        int lifted = 0;
        long ahead = 0;
        for (int from = 0; from < way.length(); from += k) {
            int set = 0;
            for (int i = from; i < Math.min(way.length(), from + k); i++) {
                set |= 1 << way.charAt(i) - '0';
            }
            most = Math.max(most, fold.sides(set));
            lifted += Long.bitCount(fold.edges(set) & ~ahead);
            ahead = fold.edges(set);
        }
        goesDue(fold, snail, k, most, lifted);
    }

    /** "none, if one is no FOLD"; "Each must be GOOD by itself (a FOLD)". */
    private static void goesWithoutFold() {
        for (boolean snail : new boolean[] {false, true}) {
            for (String kind : new String[] {"pond", "lane"}) {
                for (int at = 0; at < 3; at++) {
                    MovedFold fold = Check.told("field 3 1;" + kind + " " + at + " 0");
                    for (int k = 1; k <= 10; k++) {
                        goesDue(fold, snail, k, NONE, NONE);
                    }
                }
                goesDue(Check.told(kind + " 0 0"), snail, 1, NONE, NONE);
            }
            goesDue(Check.told("field 2 1;yards 0 0 0;yards 1 0 0;hurdles 0;want 90"), snail, 1, 4, 4 + 3);
        }
    }

    /** "OUTSIDE: k (1 .. 10), what." */
    private static void goesRefused() {
        for (MovedFold fold : new MovedFold[] {new MovedFold(), Check.told("pond 0 0")}) {
            for (boolean snail : new boolean[] {false, true}) {
                for (int k : new int[] {0, -1, 11, LEAST, MOST}) {
                    goesDue(fold, snail, k, OUTSIDE, OUTSIDE);
                }
                for (int what : new int[] {-1, 2, LEAST, MOST}) {
                    Check.due("24: what " + what, fold.goes(snail, 1, what), OUTSIDE);
                    Check.due("24: what " + what + ", k 10", fold.goes(snail, 10, what), OUTSIDE);
                }
            }
        }
    }

    /** "0 SQUARES, 1 columns, 2 EDGES, 3 bytes .., 4 NIGHTS .., 5 HURDLES, 6 REST, 7 entries ... OUTSIDE." */
    private static void countsAtTheirBounds() {
        MovedFold least = Check.told("hurdles 0;rest 0;thaw");
        int[] leastDue = {1, 1, 4, 0, 0, 0, 0, 0};
        MovedFold most = Check.told("field 10 1;hurdles 60;rest 99;want 1;want 2;want 3;want 4;want 5;want 6;want 7");
        for (int i = 0; i < 20; i++) {
            most.fold(0);
        }
        Check.write(most, " ".repeat(200));
        int[] mostDue = {10, 10, 31, 200, 20, 60, 99, 7};
        for (int what = 0; what < 8; what++) {
            Check.due("25: the least of " + what, least.count(what), leastDue[what]);
            Check.due("25: the most of " + what, most.count(what), mostDue[what]);
        }
        for (int what : new int[] {-1, 8, 9, LEAST, MOST}) {
            Check.due("25: count(" + what + ")", most.count(what), OUTSIDE);
        }
        Check.due("25: columns of a tall field", Check.told("field 1 10").count(1), 1);
        Check.due("25: edges of a tall field", Check.told("field 1 10").count(2), 31);
    }

    /** All is answered for the field as it is now, whatever was asked of the one ahead. */
    private static void fieldsOneAfterAnother() {
        MovedFold fold = new MovedFold();
        for (int n : new int[] {10, 2, 9, 1, 10, 3, 10, 10}) {
            Check.tell(fold, "field " + n + " 1");
            String told = " of " + n;
            Check.due("19: all at once" + told, fold.fewest(90), 2 * n + 2);
            Check.due("20: lifted" + told, fold.best(1, 60, -2), 2 * n + 2);
            Check.due("20: by one each" + told, fold.best(1, 4, -1), n);
            Check.due("20: by one each, lifted" + told, fold.best(1, 4, -2), 3 * n + 1);
            Check.due("20: with 60 again" + told, fold.best(1, 60, -1), 1);
            Check.due("20: by one each again, the last" + told, fold.best(1, 4, n - 1), 1 << n - 1);
            Check.due("20: another w" + told, fold.best(90, 4, -1), n == 1 ? 1 : NONE);
            Check.due("21: courses" + told, fold.courses(1, 60), (1 << n) - 1);
            Check.due("22: round" + told, fold.round(1), 100);
            Check.due("21: courses behind round" + told, fold.courses(1, 60), (1 << n) - 1);
            Check.due("17: few" + told, fold.few(n, 0), (1 << n) - 1);
        }
    }

    /** "An object is used for at most 512 calls after it has been made": the last of them is answered as the first. */
    private static void fiveHundredAndTwelve() {
        MovedFold fold = new MovedFold();
        for (int call = 1; call <= 2; call++) {
            Check.due("2: call " + call, fold.write(call == 1 ? 2320233848713341286L : '3', call == 1 ? 8 : 1), call == 1 ? 8 : 9);
        }
        Check.due("5: call 3", fold.field(), 1);
        for (int call = 4; call <= 509; call++) {
            Check.due("19: call " + call, fold.fewest(1 + call % 3), 4 + call % 3 * 2);
        }
        Check.due("20: call 510", fold.best(3, 8, -2), 18);
        Check.due("21: call 511", fold.courses(9, 60), 1);
        Check.due("22: call 512", fold.round(9), 100);
    }

    /** Ten squares of 9 yards each, by two texts. */
    private static MovedFold rich() {
        MovedFold fold = Check.told("field 10 1");
        Check.tell(fold, "yards 0 0 9;yards 1 0 9;yards 2 0 9;yards 3 0 9;yards 4 0 9");
        Check.tell(fold, "yards 5 0 9;yards 6 0 9;yards 7 0 9;yards 8 0 9;yards 9 0 9");
        return fold;
    }
}
