import java.nio.charset.StandardCharsets;
import java.nio.file.Files;
import java.nio.file.Path;

/**
 * The document from its first line to its last: each sentence is quoted in its place, and behind it stand calls
 * whose answers would not be as due if it were broken. Where the document is found, the quotes are looked up in it,
 * in their order; what is left between two of them must be headings and signatures alone.
 */
final class SentencesTest {
    private static final int NONE = -1, UNKNOWN = -2, OUTSIDE = -3, NOT = -4, FULL = -5;
    private static final String HEDGED = "hedge 0 0 left;hedge 0 0 right;hedge 0 0 up;hedge 0 0 down";
    private static String document = null;
    private static int read = 0;
    private static String quoted = "";

    public static void main(String[] args) throws Exception {
        findDocument();
        whatItIs();
        publicFace();
        theField();
        hurdlesAndNights();
        theText();
        linesDone();
        aFold();
        goodRows();
        liftedAndCarried();
        fewAndTwo();
        aCourse();
        bestAndOthers();
        stripsAndSnails();
        refused();
        promisesOfTheField();
        promisesOfFolds();
        promisesOfTheFewest();
        notPromised();
        endDocument();
        Check.end();
    }

    // ---- the quotes

    private static void findDocument() throws Exception {
        String shared = System.getenv("SHARED");
        Path path = Path.of(shared == null ? "../shared" : shared, "DOC.md");
        if (Files.isReadable(path)) {
            document = Files.readString(path, StandardCharsets.UTF_8).replaceAll("\\s+", " ");
        } else {
            System.out.println("no document at " + path + ": the quotes are not looked up");
        }
    }

    /** The next sentence of the document; what stands behind this call looks at it. */
    private static void says(String sentence) {
        quoted = sentence;
        if (document != null) {
            int at = document.indexOf(sentence, read);
            Check.due("the document says: " + sentence, at < 0 ? 0 : 1, 1);
            if (at >= 0) {
                passOver(document.substring(read, at));
                read = at + sentence.length();
            }
        }
    }

    /** A part of the document that says nothing of an answer. */
    private static void tells(String part) {
        says(part);
    }

    private static void endDocument() {
        if (document != null) {
            passOver(document.substring(read));
        }
    }

    private static void passOver(String between) {
        String left = between.replaceAll("## Promise \\d+: \\w+( new object)?", "")
            .replaceAll("## (What it is|The public face|Terms|Not promised)|# MovedFold", "")
            .replaceAll("```(java|text)?|======== \\d|`[^`]*\\)`:", "")
            .replaceAll("[ .,;:()]", "");
        Check.due("without a test: " + between, left.length(), 0);
    }

    private static void due(String call, long got, long want) {
        Check.due("\"" + quoted + "\" " + call, got, want);
    }

    // ---- what it is, and the face

    private static void whatItIs() {
        tells("Move the fold each morning: a field of squares with turnips, ponds, a lane that stays open, hedges that count as "
            + "sides, told in texts, read to their first fault; folds in one piece, the hurdles each needs; rows of folds judged "
            + "night by night: fresh, beside the last, big enough, with hurdles enough, on frozen mornings none moved; hurdles "
            + "lifted, yards carried at the least; the fewest hurdles that shut in so many yards, for two folds at once; the "
            + "fewest with which the whole field can be gone over, the row with the fewest lifted, how many rows there are; "
            + "strips and snails; what ponds and the lane cost, what a broken hurdle does.");
        says("THE FIELD has w columns and h rows (1 ..");
        MovedFold field = Check.told("field 5 2");
        due("w", field.count(1), 5);
        due("w h", field.count(0), 10);
        says("An object is used for at most 512 calls after it has been made; what later calls answer is free.");
        MovedFold fold = new MovedFold();
        for (int call = 1; call < 512; call++) {
            fold.write(32, call % 9);
        }
        due("call 512", fold.fewest(1), 4);
    }

    /** FaceTest looks at each signature. */
    private static void publicFace() {
        tells("public final class MovedFold {");
        says("public static final int NONE = -1, UNKNOWN = -2, OUTSIDE = -3, NOT = -4, FULL = -5;");
        due("NONE", MovedFold.NONE, -1);
        due("UNKNOWN", MovedFold.UNKNOWN, -2);
        due("OUTSIDE", MovedFold.OUTSIDE, -3);
        due("NOT", MovedFold.NOT, -4);
        due("FULL", MovedFold.FULL, -5);
        tells("public MovedFold(); public int write(long bytes, int n); public int erase(); public int fault(); public int field(); "
            + "public int square(int square); public int hedge(int edge); public int night(int night, int what); "
            + "public int sides(int fold); public long edges(int fold); public int yards(int set); public int fold(int fold); "
            + "public int clear(); public int judge(); public int why(); public int moved(int night, int what); "
            + "public int few(int n, int what); public int two(int a, int b, int what); public int fewest(int w); "
            + "public int best(int w, int n, int i); public int courses(int w, int n); public int round(int w); "
            + "public int broken(int w, int n); public int goes(boolean snail, int k, int what); public int count(int what); }");
    }

    // ---- terms: the field

    private static void theField() {
        says("10 each, 10 SQUARES at most;");
        int[][] sizes = {{10, 1, NONE}, {1, 10, NONE}, {2, 5, NONE}, {3, 3, NONE}, {0, 1, 6}, {11, 1, 6}, {1, 0, 8}, {1, 11, 8},
            {2, 6, 8}, {3, 4, 8}, {10, 2, 9}};
        for (int[] size : sizes) {
            due(size[0] + " by " + size[1], Check.faultOf("field " + size[0] + " " + size[1]), size[2]);
        }
        says("1 and 1 at first): SQUARE w y + x.");
        due("one square", new MovedFold().count(0), 1);
        MovedFold fold = Check.told("field 3 2;yards 0 1 7");
        for (int square = 0; square < 6; square++) {
            due("0, 1 of 3 by 2 is 3, square " + square, fold.square(square), square == 3 ? 7 : 1);
        }
        due("1, 2 of 2 by 3 is 5", Check.told("field 2 3;yards 1 2 7").square(5), 7);
        says("Each has YARDS (0 .. 9; 1 at first), or is POND, or LANE (these have none).");
        due("1 at first", new MovedFold().yards(1), 1);
        due("0", Check.told("yards 0 0 0").yards(1), 0);
        due("9", Check.told("yards 0 0 9").yards(1), 9);
        due("10", Check.faultOf("yards 0 0 10"), 10);
        due("a pond has none", Check.told("yards 0 0 9;pond 0 0").yards(1), 0);
        due("a lane has none", Check.told("yards 0 0 9;lane 0 0").yards(1), 0);
        says("EDGES are between two SQUARES side by side and between a SQUARE and what is outside; each may be HEDGE (none at first).");
        MovedFold two = Check.told("field 2 1");
        due("3 upright, 4 lying", two.count(2), 7);
        for (int edge = 0; edge < 7; edge++) {
            due("none at first " + edge, two.hedge(edge), 0);
        }
        Check.tell(two, "hedge 0 0 right;hedge 1 0 right");
        due("between two", two.hedge(1), 1);
        due("to the outside", two.hedge(2), 1);
        says("EDGE numbers: that on the left of SQUARE x, y (x up to w: that on the right of the last): (w + 1) y + x; "
            + "that above it (y up to h): (w + 1) h + w y + x.");
        // of 1, 1 in 3 by 2: 4 + 1 on the left, 8 + 3 + 1 above it
        due("round 1, 1", Check.told("field 3 2").edges(16), 1L << 5 | 1L << 6 | 1L << 12 | 1L << 15);
        due("x is w", Check.told("field 3 2;hedge 2 1 right").hedge(7), 1);
        due("y is h", Check.told("field 3 2;hedge 2 1 down").hedge(16), 1);
    }

    private static void hurdlesAndNights() {
        says("HURDLES are so many (0 .. 60; 60 at first).");
        due("at first", new MovedFold().count(5), 60);
        due("0", Check.told("hurdles 0").count(5), 0);
        due("60", Check.told("hurdles 1;hurdles 60").count(5), 60);
        due("61", Check.faultOf("hurdles 61"), 8);
        says("NIGHTS WANT so many YARDS (0 .. 90), by a row of 7 at most (NIGHT i: entry i modulo how many there are; 1 without).");
        due("without", new MovedFold().night(5, 0), 1);
        MovedFold fold = Check.told("want 90;want 0;want 4");
        int[] three = {90, 0, 4};
        for (int night = 0; night < 20; night++) {
            due("night " + night, fold.night(night, 0), three[night % 3]);
        }
        due("91", Check.faultOf("want 91"), 5);
        Check.tell(fold, "want 5;want 6;want 7;want 8;want 9");
        due("7 at most", fold.count(7), 7);
        due("the seventh", fold.night(6, 0), 8);
        says("REST is 0 .. 99 (0 at first), FROZEN are NIGHTS 0 .. 19 (none at first).");
        due("rest at first", new MovedFold().count(6), 0);
        due("99", Check.told("rest 99").count(6), 99);
        due("100", Check.faultOf("rest 100"), 5);
        due("0", Check.told("rest 3;rest 0").count(6), 0);
        MovedFold frost = new MovedFold();
        for (int night = 0; night < 20; night++) {
            due("none at first " + night, frost.night(night, 1), 0);
        }
        Check.tell(frost, "frozen 0;frozen 19");
        due("night 0", frost.night(0, 1), 1);
        due("night 19", frost.night(19, 1), 1);
        due("night 20", Check.faultOf("frozen 20"), 7);
    }

    private static void theText() {
        says("THE TEXT is a row of bytes, 200 at most:");
        MovedFold fold = new MovedFold();
        due("200", Check.write(fold, " ".repeat(193) + "rest 17"), 200);
        due("201", fold.write(32, 1), FULL);
        due("the last byte counts", fold.field(), 1);
        due("and is done", fold.count(6), 17);
        says("LINES with ; (59) between, 1 to 10 (behind the 10th no ; can stand);");
        String nine = "thaw;".repeat(9);
        due("none", Check.faultOf(""), 0);
        due("ten", Check.faultOf(nine + "thaw"), NONE);
        due("; behind the ninth", Check.faultOf(nine), 45);
        due("; behind the tenth", Check.faultOf(nine + "thaw;"), 49);
        due("an eleventh", Check.faultOf(nine + "thaw;thaw"), 49);
        due("another sign between", Check.faultOf("thaw:thaw"), 4);
        says("each is one of: field W H. yards X Y N. pond X Y. lane X Y. hedge X Y D. open X Y D. hurdles N. want N. rest N. "
            + "frozen N. thaw. (As written here, without points;");
        for (String line : new String[] {"field 1 1", "yards 0 0 1", "pond 0 0", "lane 0 0", "hedge 0 0 up", "open 0 0 up",
            "hurdles 1", "want 1", "rest 1", "frozen 1", "thaw"}) {
            due(line, Check.faultOf(line), NONE);
            due(line + ".", Check.faultOf(line + "."), line.length());
            due(line + " 1", Check.faultOf(line + " 1"), line.length() + 1);
            due(line + " thaw", Check.faultOf(line + " thaw"), line.length() + 1);
            int last = Math.max(0, line.lastIndexOf(' '));
            due(line + " without its last", Check.faultOf(line.substring(0, last)), last);
        }
        due("another word", Check.faultOf("ponds 0 0"), 0);
        earlierTexts();
        places();
        tokens();
    }

    private static void earlierTexts() {
        says("what earlier texts told stays, where nothing else is told;");
        MovedFold fold = Check.told("field 2 1;yards 0 0 5;hedge 1 0 up;hurdles 9;want 3;rest 2;frozen 7");
        fold.fold(1);
        Check.tell(fold, "pond 1 0");
        due("the row", fold.count(4), 1);
        due("yards", fold.square(0), 5);
        due("hedge", fold.hedge(4), 1);
        due("hurdles", fold.count(5), 9);
        due("want", fold.night(0, 0), 3);
        due("rest", fold.count(6), 2);
        due("frozen", fold.night(7, 1), 1);
        Check.tell(fold, "yards 0 0 4;hurdles 8");
        due("told else", fold.square(0), 4);
        due("hurdles told else", fold.count(5), 8);
        due("the pond", fold.square(1), 10);
        Check.tell(fold, "field 3 3");
        due("hurdles behind field", fold.count(5), 8);
        due("want behind field", fold.night(0, 0), 3);
        due("rest behind field", fold.count(6), 2);
        due("frozen behind field", fold.night(7, 1), 1);
        says("W, H with W times H 10 at most;");
        due("5 by 2", Check.faultOf("field 5 2"), NONE);
        due("5 by 3", Check.faultOf("field 5 3"), 8);
        due("9 by 1", Check.faultOf("field 9 1"), NONE);
        due("9 by 2", Check.faultOf("field 9 2"), 8);
    }

    private static void places() {
        says("X, Y of a SQUARE that there is behind the LINES ahead;");
        MovedFold fold = Check.told("field 3 1");
        Check.write(fold, "pond 2 0;field 1 3;pond 0 2");
        due("of each field its own", fold.fault(), NONE);
        fold.write(' ', 1);
        Check.write(fold, ";pond 2 0");
        due("not of the one ahead", fold.fault(), 34);
        due("x too far", Check.faultOf("field 2 3;pond 2 0"), 15);
        due("y too far", Check.faultOf("field 2 3;pond 1 3"), 17);
        says("yards: also of what was POND or LANE, which it is no more;");
        MovedFold dry = Check.told("field 2 1;pond 0 0;lane 1 0;yards 0 0 3;yards 1 0 0");
        due("no pond", dry.square(0), 3);
        due("no lane", dry.square(1), 0);
        due("one fold", dry.sides(3), 6);
        says("D: left, right, up, down: the EDGE on that side of it is HEDGE, or is not;");
        String[] sides = {"left", "right", "up", "down"};
        // round 1, 0 of 3 by 1
        int[] edges = {1, 2, 5, 8};
        for (int i = 0; i < 4; i++) {
            MovedFold hedged = Check.told("field 3 1;hedge 1 0 " + sides[i]);
            for (int edge = 0; edge < 10; edge++) {
                due(sides[i] + ", edge " + edge, hedged.hedge(edge), edge == edges[i] ? 1 : 0);
            }
            Check.tell(hedged, "open 1 0 " + sides[i]);
            due("open " + sides[i], hedged.hedge(edges[i]), 0);
        }
        says("want: one more in the row, an eighth is passed over; frozen: NIGHT N, too; thaw: no FROZEN NIGHTS, no row of NIGHTS;");
        MovedFold nights = Check.told("want 5;want 6;frozen 3;frozen 4");
        Check.tell(nights, "want 7;frozen 9");
        due("one more", nights.count(7), 3);
        due("the third", nights.night(2, 0), 7);
        due("3 too", nights.night(3, 1) + nights.night(4, 1) + nights.night(9, 1), 3);
        Check.tell(nights, "want 1;want 1;want 1;want 8;want 9");
        due("the seventh", nights.night(6, 0), 8);
        due("the eighth", nights.night(7, 0), 5);
        Check.tell(nights, "thaw");
        due("no row", nights.count(7), 0);
        due("none frozen", nights.night(3, 1) + nights.night(4, 1) + nights.night(9, 1), 0);
    }

    private static void tokens() {
        says("small letters a .. z, numbers of 1 or 2 digits, blanks (32) may stand ahead of, between, behind TOKENS, and need not "
            + "where a TOKEN ends without.)");
        due("a great letter", Check.faultOf("reSt 1"), 0);
        due("a great letter is no letter of the token", Check.faultOf("thawS"), 4);
        due("two digits", Check.told("rest 07").count(6), 7);
        due("three digits", Check.faultOf("rest 007"), 5);
        due("blanks", Check.faultOf("  hedge   0  0   left  ;  thaw  "), NONE);
        due("another blank", Check.faultOf("rest\t1"), 4);
        due("none where a token ends", Check.faultOf("hedge0 0left;rest7"), NONE);
        due("two numbers in one", Check.faultOf("field11"), 5);
        says("A FAULT is at the first TOKEN (a row of small letters, a row of digits, any other byte) that cannot stand there (a number "
            + "out of its bounds, of more digits, also), or at the end, if it comes too soon.");
        due("the whole row of letters", Check.faultOf("thaw; thawx"), 6);
        due("the whole row of digits", Check.faultOf("want 12345"), 5);
        due("any other byte", Check.faultOf("thaw--"), 4);
        due("each other byte by itself", Check.faultOf("thaw;;thaw"), 5);
        due("a byte above 127", Check.faultOf("thaw \u00e9"), 5);
        due("out of its bounds", Check.faultOf("thaw;frozen 20"), 12);
        due("the first of two", Check.faultOf("frozen 20;frozen 21"), 7);
        due("the end", Check.faultOf("rest"), 4);
        due("the end behind blanks", Check.faultOf("rest  "), 6);
    }

    private static void linesDone() {
        says("LINES are done in their order");
        MovedFold order = Check.told("rest 5;rest 6;pond 0 0;yards 0 0 8;hedge 0 0 up;open 0 0 up");
        due("rest", order.count(6), 6);
        due("square", order.square(0), 8);
        due("edge", order.hedge(2), 0);
        says("(field: all SQUARES have 1 YARD, there are no HEDGES, the ROW is empty; H is 1 to 10 by W, cut).");
        MovedFold fold = Check.told("field 2 2;yards 0 0 0;pond 1 0;lane 0 1;yards 1 1 9;hedge 0 0 left;hedge 1 1 down");
        fold.fold(1);
        Check.tell(fold, "field 2 2");
        due("1 yard each", fold.square(0) + fold.square(1) + fold.square(2) + fold.square(3), 4);
        for (int edge = 0; edge < 12; edge++) {
            due("no hedge " + edge, fold.hedge(edge), 0);
        }
        due("the row", fold.count(4), 0);
        for (int wide = 1; wide <= 10; wide++) {
            due("10 by " + wide, Check.faultOf("field " + wide + " " + 10 / wide), NONE);
            due("one more than 10 by " + wide, Check.faultOf("field " + wide + " " + (10 / wide + 1)), wide == 10 ? 9 : 8);
        }
    }

    // ---- terms: folds

    private static void aFold() {
        says("A FOLD is a set of SQUARES (bits), one at least, none POND or LANE, in one piece (by EDGES, HEDGE or not).");
        MovedFold fold = Check.told("field 3 2;pond 2 0;lane 2 1;hedge 0 0 right");
        due("none", fold.sides(0), NONE);
        due("a pond", fold.sides(4), NONE);
        due("a lane", fold.sides(32), NONE);
        due("with a pond", fold.sides(6), NONE);
        due("with a lane", fold.sides(48), NONE);
        due("by a corner", fold.sides(1 | 16), NONE);
        due("by a hedge", fold.sides(3), 5);
        due("a bow", fold.sides(1 | 8 | 16 | 2), 7);
        says("It NEEDS a hurdle on each EDGE with just one side in it, but not where that is HEDGE, nor where the other side is POND.");
        MovedFold row = Check.told("field 3 1;pond 2 0;hedge 1 0 up;lane 0 0");
        // left of 1 to the lane, and below it; not above (hedge) nor right (pond)
        due("one square", row.edges(2), 1L << 1 | 1L << 8);
        MovedFold ring = Check.told("field 3 3");
        due("with a hole", ring.sides(511 & ~16), 16);
        due("a row's end and the next row's start are no piece", ring.sides(4 | 8), NONE);
        due("none within", ring.edges(511) & (1L << 5 | 1L << 6 | 1L << 16 | 1L << 19), 0);
        says("YARDS of it: those of its SQUARES.");
        due("5 and 2", Check.told("field 3 1;yards 0 0 5;yards 1 0 2;yards 2 0 9").yards(3), 7);
    }

    private static void judged(String call, MovedFold fold, int night, int why, int... row) {
        fold.clear();
        for (int set : row) {
            fold.fold(set);
        }
        due(call + ": judge()", fold.judge(), night);
        due(call + ": why()", fold.why(), why);
    }

    private static void goodRows() {
        MovedFold fold = Check.told("field 3 2");
        says("A ROW of FOLDS, NIGHT by NIGHT, is GOOD, if each is a FOLD,");
        judged("two folds", fold, NONE, NONE, 1, 2);
        judged("two pieces", fold, 1, 0, 1, 10);
        judged("nothing", fold, 0, 0, 0);
        says("NEEDS HURDLES at most,");
        Check.tell(fold, "hurdles 6");
        judged("6", fold, NONE, NONE, 3);
        judged("8", fold, 0, 1, 7);
        Check.tell(fold, "hurdles 5");
        judged("6 of 5", fold, 0, 1, 3);
        says("and has as many YARDS as its NIGHT WANTS, or more;");
        Check.tell(fold, "hurdles 60;want 2;want 1");
        judged("as many", fold, NONE, NONE, 3, 4);
        judged("more", fold, NONE, NONE, 7);
        judged("fewer", fold, 0, 2, 1);
        judged("fewer in night 2", fold, 2, 2, 3, 4, 32);
        says("on a FROZEN NIGHT (not 0) it is that of the NIGHT ahead,");
        Check.tell(fold, "thaw;frozen 0;frozen 2");
        judged("the same", fold, NONE, NONE, 1, 2, 2, 4);
        judged("another", fold, 2, 3, 1, 2, 4);
        judged("with one more", fold, 2, 3, 1, 2, 6);
        says("else (NIGHT 0 apart) some SQUARE of it that is not in the FOLD ahead lies beside one of that which is not in it,");
        Check.tell(fold, "thaw;rest 1");
        judged("beside", fold, NONE, NONE, 1, 8);
        judged("by a corner", fold, 1, 4, 1, 16);
        judged("far", fold, 1, 4, 1, 4);
        judged("only by a square of both", fold, 1, 4, 3, 6);
        judged("others of both beside", fold, 1, 5, 3 | 8, 2 | 16);
        says("and it has no SQUARE of a FOLD of the last REST NIGHTS (of any NIGHT ahead, if REST is 0).");
        int[] round = {1, 2, 16, 8, 1};
        judged("rest 1", fold, NONE, NONE, round);
        Check.tell(fold, "rest 3");
        judged("rest 3", fold, NONE, NONE, round);
        Check.tell(fold, "rest 4");
        judged("rest 4", fold, 4, 5, round);
        Check.tell(fold, "rest 99");
        judged("rest 99", fold, 4, 5, round);
        Check.tell(fold, "rest 0");
        judged("rest 0", fold, 4, 5, round);
    }

    private static void liftedAndCarried() {
        says("LIFTED to a FOLD from the one ahead: EDGES that it NEEDS and that one not (of the first: all).");
        MovedFold fold = Check.told("field 3 1");
        for (int set : new int[] {1, 2, 6, 6, 1, 7}) {
            fold.fold(set);
        }
        // 2 behind 1: all but the edge between; 6 behind 2: three of the end; 1 behind 6: all but the edge between
        int[] lifted = {4, 3, 3, 0, 3, 5};
        for (int night = 0; night < lifted.length; night++) {
            due("night " + night, fold.moved(night, 0), lifted[night]);
        }
        says("CARRIED: each of these gets a hurdle from an EDGE that the one ahead NEEDED and this one not, or from THE HEAP (as many "
            + "as one likes) at the corner of SQUARE 0, left and above; far is: in x and in y together, in half SQUARES (an EDGE is "
            + "at its middle); the least together.");
        due("all from the heap: left 1, above 1, right and below 3", fold.moved(0, 1), 1 + 1 + 3 + 3);
        due("above and below 2 each, left to right 4", fold.moved(1, 1), 2 + 2 + 4);
        due("an edge that both need gives none", fold.moved(3, 1), 0);
        // to the heap's side: left 1 and above 1 from the heap, below 2 from below 1
        due("some from the heap", fold.moved(4, 1), 1 + 1 + 2);
        // above and below 1 and 2, and the right end: 3 + 5 + 5 + 7 + 7 from the heap, the edge between saves 3
        due("one edge gives one hurdle", fold.moved(5, 1), 3 + 5 + 5 + 7 + 7 - 3);
        // 7 behind 2: the left end and above 0 from the heap, below 0 too; the far ones by the edges on both sides of 1
        fold.clear();
        fold.fold(2);
        fold.fold(7);
        due("the least together, not each its nearest", fold.moved(1, 1), 24 - 5 - 3);
        MovedFold down = Check.told("field 1 3");
        down.fold(4);
        // left and right of 0, 2: 5 and 7; above 4 + 1, below 6 + 1
        due("in y as in x", down.moved(0, 1), 5 + 7 + 5 + 7);
    }

    // ---- terms: the fewest

    private static void fewAndTwo() {
        says("FEW for n YARDS: the FOLD that NEEDS fewest, of those with n YARDS at least; of several the least number.");
        MovedFold fold = Check.told("field 3 2");
        due("1 of six", fold.few(1, 0), 1);
        due("0 1 2 ahead of 0 1 3", fold.few(3, 0), 7);
        due("4 by a square", fold.few(4, 0), 27);
        due("4 needs 8", fold.few(4, 1), 8);
        Check.tell(fold, "hedge 2 1 down");
        due("the fewest ahead of the least", fold.few(1, 0), 32);
        due("more yards, fewer hurdles", Check.told("field 2 1;" + HEDGED + ";open 0 0 right;hedge 1 0 up;hedge 1 0 down;"
            + "hedge 1 0 right").few(1, 0), 3);
        says("FEW TWO for a and b YARDS: two FOLDS, no SQUARE in both, with a and b YARDS at least: EDGES that one of them NEEDS or "
            + "both, the fewest together (by both: an EDGE between them NEEDS one); of several the least first one, then the least "
            + "second.");
        MovedFold square = Check.told("field 2 2");
        due("the edge between once", square.two(1, 1, 2), 7);
        due("the least first", square.two(1, 1, 0), 1);
        due("the least second", square.two(1, 1, 1), 2);
        due("a for the first", square.two(3, 1, 0), 7);
        due("b for the second", square.two(1, 3, 1), 14);
        due("no square in both", square.two(3, 2, 2), NONE);
    }

    private static void aCourse() {
        says("A COURSE is a row of FOLDS, one at least,");
        due("nothing to be had", Check.told("yards 0 0 0").courses(1, 60), 1);
        due("hurdles for one", Check.told("yards 0 0 0").fewest(1), 4);
        due("the best has one", Check.told("yards 0 0 0").best(1, 60, 0), 1);
        says("each fresh (no SQUARE twice at all),");
        // 1 2 4 and 4 2 1; with squares twice there were 2 1 2 4 and more
        MovedFold row = Check.told("field 3 1");
        due("by one each", row.courses(1, 4), 2);
        says("each but the first with a SQUARE beside one of that ahead,");
        MovedFold cross = Check.told("field 3 3;lane 0 0;lane 2 0;lane 0 2;lane 2 2");
        due("a cross by one each", cross.courses(1, 4), 0);
        due("a cross", cross.fewest(1), 8);
        due("through a hedge", Check.told("field 2 1;hedge 0 0 right").courses(1, 4), 2);
        says("each with w YARDS at least but the last,");
        MovedFold uneven = Check.told("field 2 1;yards 0 0 3");
        // [1, 2], [2, 1], [3]; [2, 1] has 1 yard first
        due("w 1", uneven.courses(1, 60), 3);
        due("w 2", uneven.courses(2, 60), 2);
        due("w 3", uneven.courses(3, 60), 2);
        due("w 4", uneven.courses(4, 60), 1);
        due("w 5: the last has 4", uneven.courses(5, 60), 1);
        says("by which each SQUARE with YARDS above 0 is had. (SQUARES with 0 YARDS may be in FOLDS, and may be left.)");
        due("not to be had", Check.told("field 3 1;lane 1 0").courses(1, 60), 0);
        MovedFold bare = Check.told("field 3 1;yards 0 0 0;yards 2 0 0");
        // 2, 3, 6, 7 alone; 2 then 1 or 4; 3 then 4; 6 then 1
        due("with, without, behind", bare.courses(1, 60), 8);
        says("FEWEST for w: the least number of HURDLES with which there is a COURSE; none.");
        due("w 1", row.fewest(1), 4);
        due("w 2", row.fewest(2), 6);
        due("w 3", row.fewest(3), 8);
        due("none", Check.told("field 3 1;lane 1 0").fewest(1), NONE);
    }

    private static void bestAndOthers() {
        says("BEST for w with n hurdles: the COURSE with fewest LIFTED together; of several the first by FOLDS' numbers (one with "
            + "which another one begins is ahead of that);");
        MovedFold row = Check.told("field 3 1");
        due("all at once", row.best(1, 8, -2), 8);
        due("in two", row.best(1, 7, -2), 6 + 3);
        due("the first of 1 6, 3 4, 4 3, 6 1", row.best(1, 7, 0), 1);
        due("its second", row.best(1, 7, 1), 6);
        due("in three", row.best(1, 4, -2), 4 + 3 + 3);
        // 1, 1 and then 2, 3: each lifts 3, as the square of 0 yards is hedged all round
        MovedFold begun = Check.told("field 2 1;yards 1 0 0;hedge 1 0 left;hedge 1 0 right;hedge 1 0 up;hedge 1 0 down");
        due("lifted alike", begun.best(1, 60, -2), 3);
        due("the first", begun.best(1, 60, 0), 1);
        due("that others begin with", begun.best(1, 60, -1), 1);
        says("COURSES: how many there are, modulo 1000000007.");
        // to each of the 7 ways to cut a row of four two directions, and all at once
        due("four in a row", Check.told("field 4 1").courses(1, 60), 2 * 7 + 1);
        due("two by two: all, a corner last, halves", Check.told("field 2 2").courses(2, 60), 1 + 4 + 4);
        says("ROUND: how many more FEWEST needs than if each POND and LANE were a SQUARE of 0 YARDS; none, if one of both has none.");
        due("a pond: 3, else 4", Check.told("field 2 1;pond 1 0").round(1), 100 - 1);
        due("a lane: 12, else 10", Check.told("field 3 2;lane 1 0").round(5), 100 + 2);
        due("none with the lane", Check.told("field 3 1;lane 1 0").round(1), NONE);
        MovedFold drained = Check.told("field 3 2;lane 1 0");
        due("the lane as it is: 12, else 10", drained.round(5), 100 + 2);
        Check.tell(drained, "pond 1 0;hedge 0 0 left");
        due("the field as it is now: 8, else 9", drained.round(5), 100 - 1);
        says("BROKEN: how many more LIFTED BEST has with one hurdle less; none likewise.");
        due("8, then 9", row.broken(1, 8), 1);
        due("9, then 10", row.broken(1, 6), 1);
        due("9 both times", row.broken(1, 7), 0);
        due("none with 3", row.broken(1, 4), NONE);
    }

    private static void stripsAndSnails() {
        says("STRIP of k SQUARES: FOLDS of k SQUARES each (the last has those left), along columns: the first downward, the next "
            + "upward, and so on.");
        MovedFold fold = Check.told("field 3 3");
        // 0 3 | 6 7 | 4 1 | 2 5 | 8
        due("by two, the most", fold.goes(false, 2, 0), 6);
        due("by two, lifted", fold.goes(false, 2, 1), 6 + 5 + 5 + 4 + 3);
        // 0 3 6 | 7 4 1 | 2 5 8
        due("by three, lifted", fold.goes(false, 3, 1), 8 + 5 + 5);
        // 0 2 3 | 1; upward first it were 2 0 1 | 3, with the hedge in the greater one
        due("downward first, the most", Check.told("field 2 2;hedge 1 0 up").goes(false, 3, 0), 8);
        says("SNAIL: along the outer SQUARES from SQUARE 0: to the right, down, to the left, up, then on within.");
        // 0 1 | 2 3 | 7 6 | 5 4; down first it were 6 + 5 + 5 + 5
        due("by two in 4 by 2, lifted", Check.told("field 4 2").goes(true, 2, 1), 6 + 5 + 4 + 5);
        // 0 1 2 | 5 8 7 | 6 3 4
        due("by three, lifted", fold.goes(true, 3, 1), 8 + 7 + 5);
        // the ring, then 4 within
        due("by eight, the most", fold.goes(true, 8, 0), 16);
        due("by eight, lifted", fold.goes(true, 8, 1), 16);
        due("all nine at once", fold.goes(true, 9, 0), 12);
        says("Each must be GOOD by itself (a FOLD): the most that one NEEDS, all LIFTED; none, if one is no FOLD.");
        MovedFold poor = Check.told("field 2 1;hurdles 0;want 90;yards 0 0 0;yards 1 0 0");
        due("a fold that needs more and has less", poor.goes(false, 1, 0), 4);
        due("all lifted", poor.goes(true, 1, 1), 4 + 3);
        due("a pond", Check.told("field 2 1;pond 1 0").goes(false, 1, 0), NONE);
        due("a lane", Check.told("field 2 1;lane 1 0").goes(true, 1, 1), NONE);
    }

    /** RefusedTest looks at "nothing changes" for each call. */
    private static void refused() {
        says("Refused, and nothing changes: UNKNOWN (no such SQUARE, EDGE, NIGHT), OUTSIDE (another number is not as told), "
            + "NOT (not now: as told), FULL: the first of these that fits.");
        MovedFold fold = new MovedFold();
        due("no such square", fold.square(1), UNKNOWN);
        due("no such edge", fold.hedge(4), UNKNOWN);
        due("no such night, and another number", fold.night(20, 2), UNKNOWN);
        due("no such night in the row, and another number", fold.moved(0, 2), UNKNOWN);
        due("another number", fold.night(0, 2), OUTSIDE);
        due("not now", fold.field(), NOT);
        for (int night = 0; night < 20; night++) {
            fold.fold(1);
        }
        due("full", fold.fold(1), FULL);
        due("another number ahead of full", fold.fold(2), OUTSIDE);
        due("nothing changes", fold.count(4), 20);
        Check.write(fold, " ".repeat(199));
        due("full of bytes", fold.write(0x2020L, 2), FULL);
        due("another number ahead of full of bytes", fold.write(0, 9), OUTSIDE);
        due("no byte more", fold.count(3), 199);
        tells("Ahead of the calls `write`, `erase`, `fault`, `field`, `square`, `hedge`, `night` the interface says: ---- the field.");
        tells("Ahead of the calls `sides`, `edges`, `yards`, `fold`, `clear`, `judge`, `why`, `moved` the interface says: ---- folds.");
        tells("Ahead of the calls `few`, `two`, `fewest`, `best`, `courses`, `round`, `broken`, `goes`, `count` the interface says: "
            + "---- the fewest.");
    }

    // ---- the promises

    private static void promisesOfTheField() {
        says("A FIELD of one SQUARE.");
        int[] counts = {1, 1, 4, 0, 0, 60, 0, 0};
        for (int what = 0; what < 8; what++) {
            due("count(" + what + ")", new MovedFold().count(what), counts[what]);
        }
        says("n (1 .. 8) bytes more of THE TEXT, byte i being bytes >> 8 i & 255: how many it has. OUTSIDE; FULL.");
        MovedFold fold = new MovedFold();
        due("thaw;", fold.write(0x20203b77616874L, 5), 5);
        due("rest 12 ", fold.write(0x2032312074736572L, 8), 13);
        due("n 0", fold.write(32, 0), OUTSIDE);
        due("n 9", fold.write(32, 9), OUTSIDE);
        due("no fault", fold.fault(), NONE);
        due("128 and 32 is no blank", Check.faultOf("thaw\u00a0"), 4);
        due("FULL is seen", Check.write(fold, " ".repeat(188)), FULL);
        says("THE TEXT is empty: how many bytes it had.");
        due("erase()", fold.erase(), 13 + 184);
        due("count(3)", fold.count(3), 0);
        due("erase() again", fold.erase(), 0);
        says("The place of the FAULT (the byte with which the TOKEN begins, or the length); NONE.");
        due("the token", Check.faultOf("thaw;  rest 123"), 12);
        due("the length", Check.faultOf("thaw;  "), 7);
        due("none", Check.faultOf("thaw"), NONE);
        says("THE TEXT's LINES are done, and it is empty then: how many there were. NOT: it has a FAULT.");
        Check.write(fold, "rest 3;hurdles 4;want 5;fold");
        due("a fault", fold.field(), NOT);
        due("the text stays", fold.count(3), 28);
        due("no line is done", fold.count(6), 0);
        fold.erase();
        Check.write(fold, "rest 3;hurdles 4;want 5");
        due("three", fold.field(), 3);
        due("it is empty", fold.count(3), 0);
        due("they are done", 100 * fold.count(6) + 10 * fold.count(5) + fold.night(0, 0), 345);
        says("YARDS of a SQUARE; 10 POND, 11 LANE. UNKNOWN.");
        Check.tell(fold, "field 3 1;yards 0 0 9;pond 1 0;lane 2 0");
        int[] squares = {UNKNOWN, 9, 10, 11, UNKNOWN};
        for (int square = -1; square <= 3; square++) {
            due("square(" + square + ")", fold.square(square), squares[square + 1]);
        }
        says("Whether an EDGE is HEDGE: 1, 0. UNKNOWN.");
        Check.tell(fold, "hedge 2 0 down");
        int[] hedges = {UNKNOWN, 0, 0, 0, 0, 0, 0, 0, 0, 0, 1, UNKNOWN};
        for (int edge = -1; edge <= 10; edge++) {
            due("hedge(" + edge + ")", fold.hedge(edge), hedges[edge + 1]);
        }
        says("What a NIGHT (0 .. 19) WANTS (what 0), whether it is FROZEN (1). UNKNOWN; OUTSIDE.");
        Check.tell(fold, "thaw;want 6;frozen 19");
        due("night(19, 0)", fold.night(19, 0), 6);
        due("night(19, 1)", fold.night(19, 1), 1);
        due("night(0, 1)", fold.night(0, 1), 0);
        due("night(20, 0)", fold.night(20, 0), UNKNOWN);
        due("night(-1, 1)", fold.night(-1, 1), UNKNOWN);
        due("night(0, -1)", fold.night(0, -1), OUTSIDE);
        due("night(0, 2)", fold.night(0, 2), OUTSIDE);
    }

    private static void promisesOfFolds() {
        says("How many hurdles a FOLD NEEDS; NONE: it is none. OUTSIDE: bits of no SQUARES.");
        MovedFold fold = Check.told("field 3 1;yards 2 0 7");
        due("sides(3)", fold.sides(3), 6);
        due("sides(5)", fold.sides(5), NONE);
        due("sides(8)", fold.sides(8), OUTSIDE);
        due("sides(-1)", fold.sides(-1), OUTSIDE);
        says("EDGES on which it NEEDS one, by bits; 0 also if it is none. OUTSIDE.");
        due("edges(1)", fold.edges(1), 1L | 1L << 1 | 1L << 4 | 1L << 7);
        due("edges(5)", fold.edges(5), 0);
        due("edges(8)", fold.edges(8), OUTSIDE);
        due("edges(-1)", fold.edges(-1), OUTSIDE);
        says("YARDS of a set (whether a FOLD or not). OUTSIDE.");
        due("yards(5)", fold.yards(5), 8);
        due("yards(0)", fold.yards(0), 0);
        due("yards(8)", fold.yards(8), OUTSIDE);
        says("The ROW has one more: how many NIGHTS. OUTSIDE: bits of no SQUARES; FULL: 20. (It need not be a FOLD.)");
        due("fold(1)", fold.fold(1), 1);
        due("fold(8)", fold.fold(8), OUTSIDE);
        for (int night = 2; night <= 20; night++) {
            due("no fold", fold.fold(5), night);
        }
        due("a 21st", fold.fold(1), FULL);
        says("The ROW is empty: how many it had.");
        due("clear()", fold.clear(), 20);
        due("count(4)", fold.count(4), 0);
        due("clear() again", fold.clear(), 0);
        says("The first NIGHT of the ROW that is not as it must be, if it is to be GOOD; NONE.");
        judged("an empty row", fold, NONE, NONE);
        judged("night 1 ahead of night 2", fold, 1, 4, 1, 4, 0);
        says("Why that NIGHT is not: 0 no FOLD, 1 too many NEEDED, 2 too few YARDS, 3 FROZEN and moved, 4 not beside (or the same), "
            + "5 not fresh (the first of these); NONE: the ROW is GOOD.");
        MovedFold row = Check.told("field 5 1;hurdles 5;want 1;want 2;frozen 1;yards 4 0 4");
        judged("0 ahead of 3", row, 1, 0, 1, 5);
        judged("1 ahead of 3", row, 1, 1, 1, 12);
        judged("2 ahead of 3", row, 1, 2, 1, 8);
        judged("3 ahead of 4", row, 1, 3, 1, 16);
        Check.tell(row, "thaw");
        judged("4", row, 1, 4, 1, 16);
        judged("4: the same", row, 1, 4, 1, 1);
        judged("5", row, 2, 5, 1, 2, 1);
        judged("good", row, NONE, NONE, 1, 2, 4);
        says("LIFTED (what 0), CARRIED (1) to the FOLD of a NIGHT; NONE: that, or the one ahead, is no FOLD. UNKNOWN; OUTSIDE.");
        judged("a row with no fold in it", row, 2, 0, 1, 2, 5, 2);
        due("lifted", row.moved(1, 0), 3);
        due("carried", row.moved(1, 1), 2 + 2 + 4);
        due("no fold", row.moved(2, 0), NONE);
        due("the one ahead is no fold", row.moved(3, 1), NONE);
        due("no such night", row.moved(4, 0), UNKNOWN);
        due("night -1", row.moved(-1, 0), UNKNOWN);
        due("what 2", row.moved(0, 2), OUTSIDE);
        due("what -1", row.moved(0, -1), OUTSIDE);
    }

    private static void promisesOfTheFewest() {
        MovedFold fold = Check.told("field 3 1");
        says("FEW for n YARDS (0 .. 90): the FOLD (what 0), what it NEEDS (1); NONE. OUTSIDE.");
        due("few(0, 0)", fold.few(0, 0), 1);
        due("few(2, 0)", fold.few(2, 0), 3);
        due("few(2, 1)", fold.few(2, 1), 6);
        due("few(90, 1)", fold.few(90, 1), NONE);
        due("few(-1, 0)", fold.few(-1, 0), OUTSIDE);
        due("few(91, 0)", fold.few(91, 0), OUTSIDE);
        due("few(1, 2)", fold.few(1, 2), OUTSIDE);
        due("few(1, -1)", fold.few(1, -1), OUTSIDE);
        says("FEW TWO: the first (what 0), the second (1), what they NEED (2); NONE. OUTSIDE: a, b (0 .. 90), what.");
        due("two(1, 2, 0)", fold.two(1, 2, 0), 1);
        due("two(1, 2, 1)", fold.two(1, 2, 1), 6);
        due("two(1, 2, 2)", fold.two(1, 2, 2), 9);
        due("two(0, 0, 2)", fold.two(0, 0, 2), 7);
        due("two(90, 90, 0)", fold.two(90, 90, 0), NONE);
        int[][] wrong = {{-1, 0, 0}, {91, 0, 0}, {0, -1, 0}, {0, 91, 0}, {0, 0, -1}, {0, 0, 3}};
        for (int[] w : wrong) {
            due("two" + w[0] + " " + w[1] + " " + w[2], fold.two(w[0], w[1], w[2]), OUTSIDE);
        }
        says("FEWEST for w (1 .. 90); NONE. OUTSIDE.");
        due("fewest(1)", fold.fewest(1), 4);
        due("fewest(90)", fold.fewest(90), 8);
        due("fewest(0)", fold.fewest(0), OUTSIDE);
        due("fewest(91)", fold.fewest(91), OUTSIDE);
        due("a pond", Check.told("pond 0 0").fewest(1), NONE);
        says("BEST for w with n hurdles (0 .. 60): LIFTED (i -2), how many FOLDS (-1), or the i-th; NONE: there is none, or not so "
            + "many. OUTSIDE.");
        int[] best = {OUTSIDE, 10, 3, 1, 2, 4, NONE};
        for (int i = -3; i <= 3; i++) {
            due("best(1, 4, " + i + ")", fold.best(1, 4, i), best[i + 3]);
        }
        due("none with 3", fold.best(1, 3, -1), NONE);
        due("none with 0", fold.best(1, 0, 0), NONE);
        due("with 60", fold.best(90, 60, -2), 8);
        due("w 0", fold.best(0, 4, 0), OUTSIDE);
        due("w 91", fold.best(91, 4, 0), OUTSIDE);
        due("n -1", fold.best(1, -1, 0), OUTSIDE);
        due("n 61", fold.best(1, 61, 0), OUTSIDE);
        coursesAndBehind(fold);
    }

    private static void coursesAndBehind(MovedFold fold) {
        says("COURSES. OUTSIDE.");
        due("courses(1, 60)", fold.courses(1, 60), 7);
        due("courses(1, 7)", fold.courses(1, 7), 6);
        due("courses(90, 0)", fold.courses(90, 0), 0);
        due("w 0", fold.courses(0, 9), OUTSIDE);
        due("w 91", fold.courses(91, 9), OUTSIDE);
        due("n -1", fold.courses(1, -1), OUTSIDE);
        due("n 61", fold.courses(1, 61), OUTSIDE);
        says("ROUND, and 100; NONE. OUTSIDE.");
        due("as many", fold.round(1), 100);
        due("no course", Check.told("lane 0 0").round(90), NONE);
        due("w 0", fold.round(0), OUTSIDE);
        due("w 91", fold.round(91), OUTSIDE);
        says("BROKEN, n (1 .. 60) hurdles being there; NONE. OUTSIDE.");
        due("broken(1, 60)", fold.broken(1, 60), 0);
        due("broken(1, 8)", fold.broken(1, 8), 1);
        due("broken(1, 1)", fold.broken(1, 1), NONE);
        due("n 0", fold.broken(1, 0), OUTSIDE);
        due("n 61", fold.broken(1, 61), OUTSIDE);
        due("w 0", fold.broken(0, 9), OUTSIDE);
        due("w 91", fold.broken(91, 9), OUTSIDE);
        says("STRIP (snail false), SNAIL: the most NEEDED (what 0), all LIFTED (1); NONE. OUTSIDE: k (1 .. 10), what.");
        MovedFold flat = Check.told("field 4 2");
        due("strip", flat.goes(false, 2, 1), 6 + 4 + 4 + 4);
        due("snail", flat.goes(true, 2, 1), 6 + 5 + 4 + 5);
        due("the most of one", flat.goes(true, 1, 0), 4);
        due("the most of all", flat.goes(false, 10, 0), 12);
        due("none", Check.told("pond 0 0").goes(false, 1, 0), NONE);
        due("k 0", flat.goes(false, 0, 0), OUTSIDE);
        due("k 11", flat.goes(true, 11, 0), OUTSIDE);
        due("what -1", flat.goes(true, 1, -1), OUTSIDE);
        due("what 2", flat.goes(false, 1, 2), OUTSIDE);
        says("0 SQUARES, 1 columns, 2 EDGES, 3 bytes of THE TEXT, 4 NIGHTS of the ROW, 5 HURDLES, 6 REST, 7 entries of the row of "
            + "NIGHTS. OUTSIDE.");
        Check.tell(flat, "hurdles 13;rest 17;want 1;want 2;want 3");
        flat.fold(1);
        flat.fold(2);
        Check.write(flat, "thaw ");
        int[] counts = {OUTSIDE, 8, 4, 22, 5, 2, 13, 17, 3, OUTSIDE};
        for (int what = -1; what <= 8; what++) {
            due("count(" + what + ")", flat.count(what), counts[what + 1]);
        }
    }

    private static void notPromised() {
        tells("How the state is held inside the object is free, as are the speed of each call, the text of toString and the behaviour "
            + "of equals and hashCode. Use of one object from several threads at once is not promised to be safe. Nothing is "
            + "promised beyond the answers and state changes described above, and nothing about an object after its 512th call.");
    }
}
