/** Promises 1 to 8: the field and the text that tells it. */
final class FieldTest {
    private static final int NONE = -1, UNKNOWN = -2, OUTSIDE = -3, NOT = -4, FULL = -5;
    private static final int LEAST = Integer.MIN_VALUE, MOST = Integer.MAX_VALUE;

    public static void main(String[] args) {
        newObject();
        write();
        erase();
        rightTexts();
        faultyWords();
        faultyNumbers();
        faultyEnds();
        field();
        fieldKeepsAndEmpties();
        square();
        hedge();
        night();
        Check.end();
    }

    private static void newObject() {
        MovedFold fold = new MovedFold();
        int[] counts = {1, 1, 4, 0, 0, 60, 0, 0};
        for (int i = 0; i < counts.length; i++) {
            Check.due("1: count(" + i + ")", fold.count(i), counts[i]);
        }
        Check.due("1: square(0)", fold.square(0), 1);
        for (int edge = 0; edge < 4; edge++) {
            Check.due("1: hedge(" + edge + ")", fold.hedge(edge), 0);
        }
        for (int night = 0; night < 20; night++) {
            Check.due("1: wanted in night " + night, fold.night(night, 0), 1);
            Check.due("1: night " + night + " is frozen", fold.night(night, 1), 0);
        }
        Check.due("1: fault()", fold.fault(), 0);
    }

    private static void write() {
        MovedFold fold = new MovedFold();
        Check.due("2: write(0, 0)", fold.write(0, 0), OUTSIDE);
        Check.due("2: write(0, 9)", fold.write(0, 9), OUTSIDE);
        Check.due("2: write(0, -1)", fold.write(0, -1), OUTSIDE);
        Check.due("2: write(0, LEAST)", fold.write(0, LEAST), OUTSIDE);
        Check.due("2: write(0, MOST)", fold.write(0, MOST), OUTSIDE);
        Check.due("2: nothing was written", fold.count(3), 0);
        for (int i = 1; i <= 24; i++) {
            Check.due("2: 8 blanks, time " + i, fold.write(0x2020202020202020L, 8), 8 * i);
        }
        Check.due("2: 4 more", fold.write(0x20202020L, 4), 196);
        Check.due("2: 5 more are too many", fold.write(0x77616874L, 5), FULL);
        Check.due("2: none of them was written", fold.count(3), 196);
        Check.due("2: 4 more fit", fold.write(0x77616874L, 4), 200);
        Check.due("2: the text is full", fold.write(32, 1), FULL);
        Check.due("2: OUTSIDE is ahead of FULL", fold.write(32, 9), OUTSIDE);
        Check.due("2: byte 0 is the first", fold.fault(), NONE);
        MovedFold other = new MovedFold();
        Check.due("2: only n bytes count", other.write(0x3b3b3b3b77616874L, 4), 4);
        Check.due("2: the others are no fault", other.fault(), NONE);
        Check.due("2: bytes above 127", other.write(0xff20202020202020L, 8), 12);
        Check.due("2: the byte 255 is a fault", other.fault(), 11);
    }

    private static void erase() {
        MovedFold fold = new MovedFold();
        Check.due("3: erase() of nothing", fold.erase(), 0);
        Check.write(fold, "thaw;rest 5");
        Check.due("3: erase()", fold.erase(), 11);
        Check.due("3: it is empty", fold.count(3), 0);
        Check.due("3: nothing was done", fold.count(6), 0);
        Check.write(fold, "rest 7");
        Check.due("3: the new text alone", fold.field(), 1);
        Check.due("3: is done", fold.count(6), 7);
    }

    private static void rightTexts() {
        String[] texts = {
            "field 1 1", "field 10 1", "field 1 10", "field 2 5", "field 3 3", "field 4 2", "field 02 05",
            "yards 0 0 0", "yards 0 0 9", "yards 00 00 09", "pond 0 0", "lane 0 0", "hedge 0 0 left",
            "hedge 0 0 right", "open 0 0 up", "open 0 0 down", "hurdles 0", "hurdles 60", "want 0", "want 90",
            "rest 0", "rest 99", "frozen 0", "frozen 19", "thaw", "  thaw  ", "thaw ; thaw", "field3 3;pond2 2",
            "hedge0 0left;thaw", " hedge  0  0  up ", "field 10 1;lane 9 0;field 1 10;lane 0 9",
            "thaw;thaw;thaw;thaw;thaw;thaw;thaw;thaw;thaw;thaw", "thaw;thaw;thaw;thaw;thaw;thaw;thaw;thaw;thaw;thaw  "};
        for (String text : texts) {
            Check.due("4: " + text, Check.faultOf(text), NONE);
        }
    }

    private static void faultyWords() {
        Check.due("4: no text", Check.faultOf(""), 0);
        Check.due("4: blanks", Check.faultOf("   "), 3);
        Check.due("4: no such word", Check.faultOf("  fold 1 1"), 2);
        Check.due("4: a longer word", Check.faultOf("thaws"), 0);
        Check.due("4: a shorter word", Check.faultOf("tha"), 0);
        Check.due("4: another first letter", Check.faultOf("shaw"), 0);
        Check.due("4: another last letter", Check.faultOf("thaw;resr 1"), 5);
        Check.due("4: another first letter of a side", Check.faultOf("open 0 0 heft"), 9);
        Check.due("4: words in one", Check.faultOf("thaw;thawthaw"), 5);
        Check.due("4: a great letter", Check.faultOf("Thaw"), 0);
        Check.due("4: a great letter within", Check.faultOf("thAw"), 0);
        Check.due("4: behind a word", Check.faultOf("thaw."), 4);
        Check.due("4: behind blanks", Check.faultOf("thaw  ,"), 6);
        Check.due("4: a number first", Check.faultOf("1"), 0);
        Check.due("4: two lines in one", Check.faultOf("thaw thaw"), 5);
        Check.due("4: a word for a number", Check.faultOf("rest left"), 5);
        Check.due("4: a number for a word", Check.faultOf("hedge 0 0 1"), 10);
        Check.due("4: no such side", Check.faultOf("hedge 0 0 lef"), 10);
        Check.due("4: a side with more", Check.faultOf("open 0 0 upp"), 9);
        Check.due("4: a verb for a side", Check.faultOf("hedge 0 0 field"), 10);
        Check.due("4: a side for a verb", Check.faultOf("left"), 0);
        Check.due("4: another blank", Check.faultOf("thaw\t"), 4);
        Check.due("4: a byte 0", Check.faultOf("thaw\0"), 4);
    }

    private static void faultyNumbers() {
        Check.due("4: no columns", Check.faultOf("field 0 1"), 6);
        Check.due("4: no rows", Check.faultOf("field 1 0"), 8);
        Check.due("4: 11 columns", Check.faultOf("field 11 1"), 6);
        Check.due("4: 11 rows", Check.faultOf("field 1 11"), 8);
        Check.due("4: 12 squares", Check.faultOf("field 3 4"), 8);
        Check.due("4: 10 columns, 2 rows", Check.faultOf("field 10 2"), 9);
        Check.due("4: 4 columns, 3 rows", Check.faultOf("field 4 3"), 8);
        Check.due("4: 6 columns, 2 rows", Check.faultOf("field 6 2"), 8);
        Check.due("4: more digits", Check.faultOf("rest 001"), 5);
        Check.due("4: many digits", Check.faultOf("rest 99999999999999999999"), 5);
        Check.due("4: 10 yards", Check.faultOf("yards 0 0 10"), 10);
        Check.due("4: a column too far", Check.faultOf("pond 1 0"), 5);
        Check.due("4: a row too far", Check.faultOf("lane 0 1"), 7);
        Check.due("4: one hurdle too many", Check.faultOf("hurdles 61"), 8);
        Check.due("4: wanting 91", Check.faultOf("want 91"), 5);
        Check.due("4: night 20", Check.faultOf("frozen 20"), 7);
        Check.due("4: a sign ahead", Check.faultOf("rest -1"), 5);
        Check.due("4: one number too many", Check.faultOf("rest 1 1"), 7);
        Check.due("4: a number behind thaw", Check.faultOf("thaw 1"), 5);
        Check.due("4: places of the new field", Check.faultOf("field 3 2;lane 2 1;lane 1 2"), 26);
        Check.due("4: no more places of the old", Check.faultOf("field 3 2;field 2 3;lane 2 1"), 25);
        Check.due("4: none of a later field", Check.faultOf("lane 1 1;field 3 2"), 5);
        MovedFold fold = Check.told("field 5 2");
        Check.write(fold, "lane 4 1;lane 4 2");
        Check.due("4: places of an earlier text's field", fold.fault(), 16);
        Check.due("4: asked again", fold.fault(), 16);
    }

    private static void faultyEnds() {
        Check.due("4: an end behind field", Check.faultOf("field"), 5);
        Check.due("4: an end behind columns", Check.faultOf("field 2 "), 8);
        Check.due("4: an end behind yards' place", Check.faultOf("yards 0 0"), 9);
        Check.due("4: an end behind ;", Check.faultOf("thaw;"), 5);
        Check.due("4: an end behind ; and blanks", Check.faultOf("thaw;  "), 7);
        Check.due("4: ; ahead", Check.faultOf(";thaw"), 0);
        Check.due("4: two ;", Check.faultOf("thaw;;thaw"), 5);
        Check.due("4: ; too soon", Check.faultOf("pond 0;thaw"), 6);
        String nine = "thaw;thaw;thaw;thaw;thaw;thaw;thaw;thaw;thaw;";
        Check.due("4: a 10th line too short", Check.faultOf(nine), 45);
        Check.due("4: ; behind the 10th line", Check.faultOf(nine + "thaw;"), 49);
        Check.due("4: an 11th line", Check.faultOf(nine + "thaw ; thaw"), 50);
        Check.due("4: more in the 10th line", Check.faultOf(nine + "thaw thaw"), 50);
        Check.due("4: a fault ahead of the 11th line", Check.faultOf("thow;" + nine + "thaw;"), 0);
    }

    private static void field() {
        MovedFold fold = new MovedFold();
        Check.due("5: no text", fold.field(), NOT);
        Check.write(fold, "field 2 2;rest 3;thaws");
        Check.due("5: a fault", fold.field(), NOT);
        Check.due("5: the text is still there", fold.count(3), 22);
        Check.due("5: no field was laid", fold.count(0), 1);
        Check.due("5: no rest was told", fold.count(6), 0);
        fold.erase();
        Check.write(fold, " field 2 3 ; yards 1 2 7 ; hurdles 12 ; want 5 ; want 0 ; rest 9 ; frozen 4 ; frozen 19 ");
        Check.due("5: lines", fold.field(), 8);
        Check.due("5: the text is empty", fold.count(3), 0);
        Check.due("5: squares", fold.count(0), 6);
        Check.due("5: columns", fold.count(1), 2);
        Check.due("5: edges", fold.count(2), 17);
        Check.due("5: hurdles", fold.count(5), 12);
        Check.due("5: rest", fold.count(6), 9);
        Check.due("5: wants", fold.count(7), 2);
        Check.due("5: yards of the last square", fold.square(5), 7);
        Check.due("5: night 4 is frozen", fold.night(4, 1), 1);
        Check.due("5: night 19 is frozen", fold.night(19, 1), 1);
        Check.tell(fold, "thaw;hurdles 0");
        Check.due("5: thaw", fold.night(4, 1), 0);
        Check.due("5: thaw of the last", fold.night(19, 1), 0);
        Check.due("5: no wants", fold.count(7), 0);
        Check.due("5: no hurdles", fold.count(5), 0);
        Check.due("5: rest stays", fold.count(6), 9);
        Check.tell(fold, "want 1;want 2;want 3;want 4;want 5;want 6;want 7;want 8;thaw;want 9");
        Check.due("5: wants behind thaw", fold.count(7), 1);
        Check.due("5: the want behind thaw", fold.night(0, 0), 9);
    }

    private static void fieldKeepsAndEmpties() {
        MovedFold fold = Check.told("field 3 2;pond 1 0;hedge 0 0 left;hurdles 9;want 3;rest 4;frozen 2");
        fold.fold(1);
        fold.fold(8);
        Check.tell(fold, "yards 0 0 6");
        Check.due("5: what was told stays: pond", fold.square(1), 10);
        Check.due("5: what was told stays: hedge", fold.hedge(0), 1);
        Check.due("5: the row stays", fold.count(4), 2);
        Check.tell(fold, "field 3 2");
        for (int i = 0; i < 6; i++) {
            Check.due("5: a new field's square " + i, fold.square(i), 1);
        }
        Check.due("5: a new field has no hedge", fold.hedge(0), 0);
        Check.due("5: the row is empty", fold.count(4), 0);
        Check.due("5: the first night is 1", fold.fold(1), 1);
        Check.due("5: hurdles stay", fold.count(5), 9);
        Check.due("5: wants stay", fold.night(5, 0), 3);
        Check.due("5: rest stays", fold.count(6), 4);
        Check.due("5: frost stays", fold.night(2, 1), 1);
        Check.tell(fold, "yards 2 1 5;field 2 2;lane 0 0;field 3 2");
        Check.due("5: lines go in their order", fold.square(5), 1);
        Check.due("5: the lane is gone", fold.square(0), 1);
    }

    private static void square() {
        MovedFold fold = Check.told("field 4 2;yards 3 0 0;pond 0 1;lane 2 1;yards 1 1 9");
        int[] due = {1, 1, 1, 0, 10, 9, 11, 1};
        for (int i = 0; i < due.length; i++) {
            Check.due("6: square(" + i + ")", fold.square(i), due[i]);
        }
        Check.due("6: square(-1)", fold.square(-1), UNKNOWN);
        Check.due("6: square(8)", fold.square(8), UNKNOWN);
        Check.due("6: square(LEAST)", fold.square(LEAST), UNKNOWN);
        Check.due("6: square(MOST)", fold.square(MOST), UNKNOWN);
        Check.tell(fold, "lane 0 1;pond 2 1;yards 2 1 4;yards 1 1 0");
        Check.due("6: a pond becomes a lane", fold.square(4), 11);
        Check.due("6: a lane becomes turnips", fold.square(6), 4);
        Check.due("6: turnips are gone", fold.square(5), 0);
    }

    private static void hedge() {
        MovedFold fold = Check.told("field 3 2;hedge 1 1 left;hedge 2 0 right;hedge 0 0 up;hedge 2 1 down;hedge 1 0 down");
        int hedges = 0;
        for (int edge = 0; edge < 17; edge++) {
            hedges |= fold.hedge(edge) << edge;
        }
        // left of 1, 1: 4 + 1; right of 2, 0: 3; above 0, 0: 8; below 2, 1: 8 + 6 + 2; below 1, 0: 8 + 3 + 1
        Check.due("7: hedges", hedges, 1 << 5 | 1 << 3 | 1 << 8 | 1 << 16 | 1 << 12);
        Check.due("7: hedge(17)", fold.hedge(17), UNKNOWN);
        Check.due("7: hedge(-1)", fold.hedge(-1), UNKNOWN);
        Check.due("7: hedge(LEAST)", fold.hedge(LEAST), UNKNOWN);
        Check.due("7: hedge(MOST)", fold.hedge(MOST), UNKNOWN);
        Check.tell(fold, "open 0 1 right;open 1 1 up;open 0 1 down");
        Check.due("7: opened from the other side", fold.hedge(5), 0);
        Check.due("7: opened from below", fold.hedge(12), 0);
        Check.due("7: not opened", fold.hedge(8), 1);
        MovedFold tall = Check.told("field 1 10;hedge 0 9 down");
        Check.due("7: the last edge of all", tall.hedge(30), 1);
        Check.due("7: hedge(31)", tall.hedge(31), UNKNOWN);
    }

    private static void night() {
        MovedFold fold = Check.told("want 5;want 0;want 90;frozen 0;frozen 19");
        for (int night = 0; night < 20; night++) {
            Check.due("8: night(" + night + ", 0)", fold.night(night, 0), night % 3 == 0 ? 5 : night % 3 == 1 ? 0 : 90);
            Check.due("8: night(" + night + ", 1)", fold.night(night, 1), night % 19 == 0 ? 1 : 0);
        }
        Check.due("8: night(20, 0)", fold.night(20, 0), UNKNOWN);
        Check.due("8: night(-1, 0)", fold.night(-1, 0), UNKNOWN);
        Check.due("8: night(MOST, 1)", fold.night(MOST, 1), UNKNOWN);
        Check.due("8: night(LEAST, 1)", fold.night(LEAST, 1), UNKNOWN);
        Check.due("8: night(0, 2)", fold.night(0, 2), OUTSIDE);
        Check.due("8: night(0, -1)", fold.night(0, -1), OUTSIDE);
        Check.due("8: UNKNOWN is ahead of OUTSIDE", fold.night(20, 2), UNKNOWN);
        Check.tell(fold, "want 1;want 2;want 3;want 4;want 6");
        Check.due("8: an eighth is passed over", fold.count(7), 7);
        Check.due("8: the seventh", fold.night(6, 0), 4);
        Check.due("8: the first again", fold.night(7, 0), 5);
    }
}
