import java.util.ArrayList;
import java.util.List;

/** Promises 1 to 8 at their bounds: each method has the document's sentence that it looks at. */
final class FieldBoundsTest {
    private static final int NONE = -1, UNKNOWN = -2, OUTSIDE = -3, NOT = -4, FULL = -5;
    private static final String BLANKS_8 = "        ";
    private static final String[] SIDES = {"left", "right", "up", "down"};
    /** Each kind of line, with good tokens for a field of 3 by 2. */
    private static final String[] LINES = {
        "field 3 2", "yards 2 1 9", "pond 2 1", "lane 2 1", "hedge 2 1 left", "open 2 1 right", "hurdles 60", "want 90",
        "rest 99", "frozen 19", "thaw"};

    public static void main(String[] args) {
        newObject();
        writtenBytes();
        fullText();
        erased();
        sizes();
        placesAndSquares();
        edgesOfEachSide();
        hedgesTwice();
        numbersOfLines();
        digits();
        wordsThatAreNone();
        bytesBehindAndAhead();
        blanks();
        tokensThatNeedNoBlank();
        wrongTokens();
        endsTooSoon();
        tenLines();
        firstFault();
        squaresBehindTheLinesAhead();
        faultChangesNothing();
        fieldDone();
        fieldEmptiesTheRow();
        toldStays();
        turnipsPondsLanes();
        wants();
        frozenNights();
        Check.end();
    }

    /** "A FIELD of one SQUARE"; "1 and 1 at first", "60 at first", "0 at first", "none at first", "1 without". */
    private static void newObject() {
        MovedFold fold = new MovedFold();
        Check.due("1: one square", fold.count(0), 1);
        Check.due("1: one column", fold.count(1), 1);
        Check.due("1: four edges", fold.count(2), 4);
        Check.due("1: square 0 has 1 yard", fold.square(0), 1);
        Check.due("1: there is no square 1", fold.square(1), UNKNOWN);
        Check.due("1: no hedge on the last edge", fold.hedge(3), 0);
        Check.due("1: there is no edge 4", fold.hedge(4), UNKNOWN);
        Check.due("1: the fold of it needs all four", fold.edges(1), 15);
        Check.due("1: there is no second square to fold", fold.sides(2), OUTSIDE);
        Check.due("1: 60 hurdles", fold.count(5), 60);
        Check.due("1: rest 0", fold.count(6), 0);
        Check.due("1: no row of nights", fold.count(7), 0);
        Check.due("1: an empty text", fold.erase(), 0);
        Check.due("1: an empty row", fold.clear(), 0);
        Check.due("1: it wants 1", fold.night(0, 0), 1);
        Check.due("1: night 19 wants 1", fold.night(19, 0), 1);
        Check.due("1: night 0 is not frozen", fold.night(0, 1), 0);
        Check.due("1: night 19 is not frozen", fold.night(19, 1), 0);
        MovedFold other = Check.told("field 2 2;hurdles 3;rest 5;want 7;frozen 0");
        Check.due("1: another object changes none", new MovedFold().count(0), 1);
        Check.due("1: nor is it changed", other.count(0), 4);
    }

    /** "n (1 .. 8) bytes more of THE TEXT, byte i being bytes >> 8 i & 255: how many it has. OUTSIDE". */
    private static void writtenBytes() {
        String thaw = "thaw  ;;";
        for (int n = 1; n <= 8; n++) {
            MovedFold fold = new MovedFold();
            Check.due("2: write of " + n, fold.write(bytesOf(thaw), n), n);
            Check.due("2: " + n + " once more", fold.write(bytesOf(thaw), n), 2 * n);
            Check.due("2: count of " + n, fold.count(3), 2 * n);
            fold.erase();
            fold.write(bytesOf(thaw), n);
            int due = n < 4 ? 0 : n < 7 ? NONE : 7;
            Check.due("2: the fault of " + n + " bytes of " + thaw, fold.fault(), due);
        }
        for (int n : new int[] {0, 9, -1, -8, 16, 256 + 8, Integer.MIN_VALUE, Integer.MAX_VALUE}) {
            MovedFold fold = new MovedFold();
            Check.due("2: n " + n, fold.write(bytesOf("thaw"), n), OUTSIDE);
            Check.due("2: n " + n + " writes nothing", fold.count(3), 0);
        }
        for (int at = 0; at < 8; at++) {
            MovedFold fold = new MovedFold();
            fold.write(bytesOf(BLANKS_8) | 0x80L << (8 * at), 8);
            Check.due("2: the byte above 127 is byte " + at, fold.fault(), at);
        }
        MovedFold fold = new MovedFold();
        Check.due("2: a long below 0", fold.write(-1L, 8), 8);
        Check.due("2: its bytes are 255", fold.fault(), 0);
    }

    /** "THE TEXT is a row of bytes, 200 at most"; "FULL". */
    private static void fullText() {
        for (int n = 1; n <= 8; n++) {
            MovedFold fold = new MovedFold();
            fill(fold, 200 - n);
            Check.due("2: " + n + " up to 200", fold.write(bytesOf(BLANKS_8), n), 200);
            Check.due("2: one more is too many", fold.write(bytesOf(BLANKS_8), 1), FULL);
            MovedFold other = new MovedFold();
            fill(other, 201 - n);
            Check.due("2: " + n + " up to 201", other.write(bytesOf(BLANKS_8), n), FULL);
            Check.due("2: FULL writes none of " + n, other.count(3), 201 - n);
            Check.due("2: OUTSIDE ahead of FULL", other.write(0, 9), OUTSIDE);
            Check.due("2: OUTSIDE ahead of FULL, n 0", other.write(0, 0), OUTSIDE);
        }
        MovedFold fold = new MovedFold();
        fill(fold, 192);
        fold.write(bytesOf("rest  42"), 8);
        Check.due("4: 200 bytes without fault", fold.fault(), NONE);
        Check.due("5: 200 bytes are done", fold.field(), 1);
        Check.due("5: the last bytes count", fold.count(6), 42);
        fill(fold, 199);
        fold.write('x', 1);
        Check.due("4: a fault at the last place", fold.fault(), 199);
        fold.erase();
        fill(fold, 200);
        Check.due("4: the end of 200 blanks", fold.fault(), 200);
        Check.due("5: 200 blanks are no line", fold.field(), NOT);
        Check.due("3: erase of 200", fold.erase(), 200);
        Check.due("2: then there is room", fold.write(bytesOf("thaw"), 4), 4);
    }

    /** "THE TEXT is empty: how many bytes it had." */
    private static void erased() {
        MovedFold fold = new MovedFold();
        Check.due("3: of an empty text", fold.erase(), 0);
        fold.write('r', 1);
        Check.due("3: of one byte", fold.erase(), 1);
        Check.due("3: again", fold.erase(), 0);
        Check.due("3: the text is empty", fold.count(3), 0);
        Check.write(fold, "field 2 2;hurdles 9");
        fold.erase();
        Check.due("3: nothing of it is done", fold.count(0), 1);
        Check.due("4: nothing of it is left", fold.fault(), 0);
        Check.write(fold, "thaw");
        fold.field();
        Check.due("3: of a text that was done", fold.erase(), 0);
        fold.fold(1);
        Check.tell(fold, "rest 4");
        Check.write(fold, "rest 5;");
        Check.due("3: of a faulty text", fold.erase(), 7);
        Check.due("3: the row stays", fold.count(4), 1);
        Check.due("3: what was told stays", fold.count(6), 4);
    }

    /** "w columns and h rows (1 .. 10 each, 10 SQUARES at most"; "H is 1 to 10 by W, cut". */
    private static void sizes() {
        for (int w = 0; w <= 99; w++) {
            for (int h = 0; h <= 99; h += h < 12 ? 1 : 29) {
                String text = "field " + w + " " + h;
                boolean wide = w >= 1 && w <= 10;
                boolean fits = wide && h >= 1 && w * h <= 10;
                int due = !wide ? 6 : fits ? NONE : 7 + Integer.toString(w).length();
                Check.due("4: " + text, Check.faultOf(text), due);
                if (fits) {
                    sizeDone(w, h);
                }
            }
        }
    }

    private static void sizeDone(int w, int h) {
        String size = w + " by " + h;
        MovedFold fold = Check.told("field " + w + " " + h);
        Check.due("5: squares of " + size, fold.count(0), w * h);
        Check.due("5: columns of " + size, fold.count(1), w);
        Check.due("5: edges of " + size, fold.count(2), (w + 1) * h + w * (h + 1));
        Check.due("6: the last square of " + size, fold.square(w * h - 1), 1);
        Check.due("6: none behind it in " + size, fold.square(w * h), UNKNOWN);
        Check.due("7: the last edge of " + size, fold.hedge(fold.count(2) - 1), 0);
        Check.due("7: none behind it in " + size, fold.hedge(fold.count(2)), UNKNOWN);
        Check.due("11: all of " + size, fold.yards((1 << w * h) - 1), w * h);
        Check.due("11: more than all of " + size, fold.yards(1 << w * h), OUTSIDE);
        Check.due("9: all of " + size, fold.sides((1 << w * h) - 1), 2 * (w + h));
    }

    /** "X, Y of a SQUARE that there is"; "SQUARE w y + x". */
    private static void placesAndSquares() {
        for (int[] size : allSizes()) {
            for (int x = 0; x <= 10; x++) {
                for (int y = 0; y <= 10; y++) {
                    placeDue(size[0], size[1], x, y);
                }
            }
        }
    }

    private static void placeDue(int w, int h, int x, int y) {
        String place = x + " " + y;
        String head = "field " + w + " " + h + ";";
        int atX = head.length() + 5;
        int due = x >= w ? atX : y >= h ? atX + Integer.toString(x).length() + 1 : NONE;
        for (String line : new String[] {"pond " + place, "lane " + place, "open " + place + " up"}) {
            Check.due("4: " + head + line, Check.faultOf(head + line), due);
        }
        for (String line : new String[] {"yards " + place + " 7", "hedge " + place + " up"}) {
            Check.due("4: " + head + line, Check.faultOf(head + line), due == NONE ? NONE : due + 1);
        }
        if (due == NONE) {
            MovedFold fold = Check.told(head + "yards " + place + " 7");
            for (int square = 0; square < w * h; square++) {
                Check.due("6: square " + square + " after " + head + place, fold.square(square), square == w * y + x ? 7 : 1);
            }
        }
    }

    /** "EDGE numbers: that on the left of SQUARE x, y ..: (w + 1) y + x; that above it ..: (w + 1) h + w y + x". */
    private static void edgesOfEachSide() {
        for (int[] size : allSizes()) {
            int w = size[0];
            int h = size[1];
            for (int y = 0; y < h; y++) {
                for (int x = 0; x < w; x++) {
                    int left = (w + 1) * y + x;
                    int up = (w + 1) * h + w * y + x;
                    int[] due = {left, left + 1, up, up + w};
                    for (int side = 0; side < 4; side++) {
                        hedgeDue(w, h, x + " " + y + " " + SIDES[side], due[side]);
                    }
                    long all = 1L << left | 1L << left + 1 | 1L << up | 1L << up + w;
                    Check.due("10: edges of " + x + " " + y + " in " + w + " by " + h,
                        Check.told("field " + w + " " + h).edges(1 << w * y + x), all);
                }
            }
        }
    }

    private static void hedgeDue(int w, int h, String place, int due) {
        MovedFold fold = Check.told("field " + w + " " + h + ";hedge " + place);
        for (int edge = 0; edge < fold.count(2); edge++) {
            Check.due("7: hedge(" + edge + ") of " + place + " in " + w + " by " + h, fold.hedge(edge), edge == due ? 1 : 0);
        }
        Check.tell(fold, "open " + place);
        Check.due("7: open " + place, fold.hedge(due), 0);
    }

    /** "the EDGE on that side of it is HEDGE, or is not": also when it was so already. */
    private static void hedgesTwice() {
        MovedFold fold = Check.told("field 2 1;hedge 0 0 right;hedge 1 0 left");
        Check.due("7: hedge told from both sides", fold.hedge(1), 1);
        Check.tell(fold, "open 1 0 left");
        Check.due("7: one open ends both", fold.hedge(1), 0);
        Check.tell(fold, "open 1 0 left;open 0 0 right");
        Check.due("7: open of what is open", fold.hedge(1), 0);
        Check.tell(fold, "open 0 0 up;hedge 0 0 up;hedge 0 0 down;open 0 0 down");
        Check.due("7: the later line counts: hedge", fold.hedge(3), 1);
        Check.due("7: the later line counts: open", fold.hedge(5), 0);
        Check.due("7: edge -1", fold.hedge(-1), UNKNOWN);
        Check.due("7: edge 7", fold.hedge(7), UNKNOWN);
        Check.due("7: edge 32 is not edge 0", fold.hedge(32), UNKNOWN);
        Check.due("7: edge 35 is not edge 3", fold.hedge(35), UNKNOWN);
        Check.tell(fold, "pond 0 0;yards 0 0 1;lane 1 0");
        Check.due("7: hedges stay beside ponds and lanes", fold.hedge(3), 1);
    }

    /** "HURDLES are so many (0 .. 60", "YARDS (0 .. 90)", "REST is 0 .. 99", "FROZEN are NIGHTS 0 .. 19", YARDS "0 .. 9". */
    private static void numbersOfLines() {
        for (int n = 0; n <= 99; n++) {
            numberDue("hurdles ", n, 60);
            numberDue("want ", n, 90);
            numberDue("rest ", n, 99);
            numberDue("frozen ", n, 19);
            numberDue("yards 0 0 ", n, 9);
        }
        for (String line : new String[] {"hurdles ", "want ", "rest ", "frozen ", "yards 0 0 "}) {
            Check.due("4: " + line + "100", Check.faultOf(line + "100"), line.length());
            Check.due("4: " + line + "-0", Check.faultOf(line + "-0"), line.length());
        }
    }

    private static void numberDue(String line, int n, int most) {
        MovedFold fold = new MovedFold();
        Check.write(fold, line + n);
        Check.due("4: " + line + n, fold.fault(), n > most ? line.length() : NONE);
        Check.due("5: " + line + n, fold.field(), n > most ? NOT : 1);
        boolean done = n <= most;
        switch (line.charAt(0)) {
            case 'h': Check.due("25: " + line + n, fold.count(5), done ? n : 60); break;
            case 'w':
                Check.due("8: " + line + n, fold.night(0, 0), done ? n : 1);
                Check.due("25: " + line + n, fold.count(7), done ? 1 : 0);
                break;
            case 'r': Check.due("25: " + line + n, fold.count(6), done ? n : 0); break;
            case 'y': Check.due("6: " + line + n, fold.square(0), done ? n : 1); break;
            default:
                for (int night = 0; night < 20; night++) {
                    Check.due("8: " + line + n + ", night " + night, fold.night(night, 1), done && night == n ? 1 : 0);
                }
                break;
        }
    }

    /** "numbers of 1 or 2 digits"; a FAULT is "a number .. of more digits, also". */
    private static void digits() {
        for (String line : LINES) {
            String[] tokens = line.split(" ");
            for (int at = 1; at < tokens.length; at++) {
                if (!Character.isDigit(tokens[at].charAt(0))) {
                    continue;
                }
                String two = tokens[at].length() < 2 ? "0" + tokens[at] : tokens[at];
                Check.due("4: two digits in " + line, faultIn(with(tokens, at, two)), NONE);
                Check.due("4: three digits in " + line, faultIn(with(tokens, at, "0" + two)), placeOf(tokens, at));
                Check.due("4: 20 digits in " + line, faultIn(with(tokens, at, "000000000000000000" + two)), placeOf(tokens, at));
                Check.due("4: 2 to the 32 in " + line, faultIn(with(tokens, at, "4294967297")), placeOf(tokens, at));
            }
        }
        MovedFold fold = Check.told("field 05 02;yards 04 01 07;hurdles 08;rest 00");
        Check.due("5: a digit 0 ahead: squares", fold.count(0), 10);
        Check.due("5: a digit 0 ahead: yards", fold.square(9), 7);
        Check.due("5: a digit 0 ahead: hurdles", fold.count(5), 8);
        Check.due("5: two digits 0", fold.count(6), 0);
    }

    /** A word stands "as written here": no letter more, less or other. */
    private static void wordsThatAreNone() {
        for (String line : LINES) {
            String[] tokens = line.split(" ");
            for (int at = 0; at < tokens.length; at++) {
                String word = tokens[at];
                if (Character.isDigit(word.charAt(0))) {
                    continue;
                }
                List<String> others = new ArrayList<>(List.of(word + "s", "a" + word, word.substring(1),
                    word.substring(0, word.length() - 1), word + word));
                for (int i = 0; i < word.length(); i++) {
                    others.add(word.substring(0, i) + (word.charAt(i) == 'z' ? 'y' : 'z') + word.substring(i + 1));
                }
                for (String other : others) {
                    Check.due("4: " + other + " for " + word, faultIn(with(tokens, at, other)), placeOf(tokens, at));
                }
                String split = word.charAt(0) + " " + word.substring(1);
                Check.due("4: " + split + " for " + word, faultIn(with(tokens, at, split)), placeOf(tokens, at));
                String great = word.substring(0, 1).toUpperCase() + word.substring(1);
                Check.due("4: " + great + " for " + word, faultIn(with(tokens, at, great)), placeOf(tokens, at));
            }
        }
        for (String side : SIDES) {
            Check.due("4: " + side + " is a side", Check.faultOf("hedge 0 0 " + side), NONE);
            Check.due("4: " + side + " begins no line", Check.faultOf(side), 0);
        }
    }

    /** "TOKEN (a row of small letters, a row of digits, any other byte)"; "blanks (32)"; "LINES with ; (59) between". */
    private static void bytesBehindAndAhead() {
        for (int sign = 0; sign < 256; sign++) {
            String told = "4: byte " + sign;
            String one = String.valueOf((char) sign);
            boolean letter = sign >= 'a' && sign <= 'z';
            boolean digit = sign >= '0' && sign <= '9';
            Check.due(told + " behind thaw", Check.faultOf("thaw" + one), sign == 32 ? NONE : sign == 59 ? 5 : letter ? 0 : 4);
            Check.due(told + " and a blank behind thaw", Check.faultOf("thaw " + one), sign == 32 ? NONE : sign == 59 ? 6 : 5);
            Check.due(told + " ahead of thaw", Check.faultOf(one + "thaw"), sign == 32 ? NONE : 0);
            Check.due(told + " between two lines", Check.faultOf("thaw" + one + "thaw"),
                sign == 59 ? NONE : sign == 32 ? 5 : letter ? 0 : 4);
            Check.due(told + " behind a number", Check.faultOf("rest 1" + one), sign == 32 || digit ? NONE : sign == 59 ? 7 : 6);
            Check.due(told + " ahead of a number", Check.faultOf("want " + one + "7"),
                sign == 32 || digit && sign != '9' ? NONE : 5);
            Check.due(told + " alone", Check.faultOf(one), sign == 32 ? 1 : 0);
        }
    }

    /** "blanks (32) may stand ahead of, between, behind TOKENS"; the place is "the byte with which the TOKEN begins". */
    private static void blanks() {
        for (String line : LINES) {
            for (int many = 1; many <= 5; many++) {
                String gap = " ".repeat(many);
                String wide = gap + line.replace(" ", gap) + gap;
                Check.due("4: " + wide, faultIn(wide), NONE);
                Check.due("4: " + wide + " twice", faultIn(wide + ";" + wide), NONE);
                Check.due("4: " + wide + "!", faultIn(wide + "!"), wide.length());
                Check.due("4: " + wide + ";!", faultIn(wide + ";" + gap + "!"), wide.length() + 1 + many);
                MovedFold fold = Check.told("field 3 2");
                Check.write(fold, wide + ";" + wide);
                Check.due("5: " + wide, fold.field(), 2);
            }
        }
    }

    /** "and need not where a TOKEN ends without". */
    private static void tokensThatNeedNoBlank() {
        String[] texts = {"field3 2;yards2 1 9;pond2 1", "hedge2 1left;open2 1right", "hurdles60;want90;rest99;frozen19;thaw"};
        for (String text : texts) {
            Check.due("4: " + text, faultIn(text), NONE);
        }
        Check.due("4: two numbers need one", Check.faultOf("field 31"), 6);
        Check.due("4: two numbers of one digit are one number", Check.faultOf("field 11"), 6);
        Check.due("4: ten and nothing", Check.faultOf("field 10"), 8);
        Check.due("4: two words need one", Check.faultOf("thawthaw"), 0);
        Check.due("4: a word at once behind a number", Check.faultOf("rest 1thaw"), 6);
        MovedFold fold = Check.told("field2 3;hedge1 2down;yards1 2 4");
        Check.due("5: the field without blanks", fold.count(0), 6);
        Check.due("5: the hedge without blanks", fold.hedge(16), 1);
        Check.due("5: the yards without blanks", fold.square(5), 4);
    }

    /** "A FAULT is at the first TOKEN .. that cannot stand there". */
    private static void wrongTokens() {
        for (String line : LINES) {
            String[] tokens = line.split(" ");
            for (int at = 0; at < tokens.length; at++) {
                for (String wrong : new String[] {"fold", "100", "-", ";", "."}) {
                    Check.due("4: " + wrong + " at " + at + " of " + line, faultIn(with(tokens, at, wrong)), placeOf(tokens, at));
                }
                boolean number = Character.isDigit(tokens[at].charAt(0));
                String other = number ? "left" : "0";
                Check.due("4: " + other + " at " + at + " of " + line, faultIn(with(tokens, at, other)), placeOf(tokens, at));
            }
            for (String more : new String[] {"0", "left", "thaw", "."}) {
                Check.due("4: " + line + " and " + more, faultIn(line + " " + more), line.length() + 1);
                Check.due("4: " + line + " and " + more + " behind ;", faultIn(line + "; " + more),
                    more.equals("thaw") ? NONE : line.length() + 2);
            }
        }
    }

    /** "or at the end, if it comes too soon": "or the length". */
    private static void endsTooSoon() {
        Check.due("4: an empty text", Check.faultOf(""), 0);
        for (int n = 1; n <= 16; n++) {
            Check.due("4: " + n + " blanks", Check.faultOf(" ".repeat(n)), n);
        }
        for (String line : LINES) {
            String[] tokens = line.split(" ");
            for (int at = 1; at < tokens.length; at++) {
                String begun = line.substring(0, placeOf(tokens, at));
                Check.due("4: the end behind " + begun, faultIn(begun.trim()), begun.length() - 1);
                Check.due("4: the end behind " + begun + " and a blank", faultIn(begun), begun.length());
                Check.due("4: the end behind " + begun + " and blanks", faultIn(begun + "   "), begun.length() + 3);
                Check.due("4: ; behind " + begun, faultIn(begun + ";thaw"), begun.length());
            }
            Check.due("4: the end behind " + line + ";", faultIn(line + ";"), line.length() + 1);
            Check.due("4: the end behind " + line + "; and blanks", faultIn(line + ";  "), line.length() + 3);
        }
    }

    /** "LINES with ; (59) between, 1 to 10 (behind the 10th no ; can stand)". */
    private static void tenLines() {
        for (String line : new String[] {"thaw", "rest 1", " want 0 "}) {
            StringBuilder text = new StringBuilder();
            for (int n = 1; n <= 10; n++) {
                text.append(n == 1 ? "" : ";").append(line);
                MovedFold fold = new MovedFold();
                Check.write(fold, text.toString());
                Check.due("4: " + n + " lines " + line, fold.fault(), NONE);
                Check.due("5: " + n + " lines " + line, fold.field(), n);
                Check.due("4: ; behind " + n + " lines " + line, Check.faultOf(text + ";"), text.length() + (n < 10 ? 1 : 0));
            }
            Check.due("4: an 11th line " + line, Check.faultOf(text + ";" + line), text.length());
            Check.due("4: blanks behind the 10th " + line, Check.faultOf(text + "  "), NONE);
            Check.due("4: ; behind blanks behind the 10th " + line, Check.faultOf(text + "  ;"), text.length() + 2);
        }
        MovedFold fold = new MovedFold();
        Check.write(fold, "rest 1;rest 2;rest 3;rest 4;rest 5;rest 6;rest 7;rest 8;rest 9;rest 10;rest 11");
        Check.due("5: 11 lines", fold.field(), NOT);
        Check.due("5: none of 11 lines is done", fold.count(6), 0);
        fold.erase();
        Check.write(fold, "rest 1;rest 2;rest 3;rest 4;rest 5;rest 6;rest 7;rest 8;rest 9;rest 10");
        Check.due("5: 10 lines", fold.field(), 10);
        Check.due("5: the 10th line is done", fold.count(6), 10);
    }

    /** "read to their first fault": of two, the first one is told. */
    private static void firstFault() {
        Check.due("4: both numbers", Check.faultOf("field 0 0"), 6);
        Check.due("4: place and yards", Check.faultOf("yards 0 1 10"), 8);
        Check.due("4: place and side", Check.faultOf("hedge 1 0 lef"), 6);
        Check.due("4: a line and the next", Check.faultOf("rest 1 ;rest 100;thow"), 13);
        Check.due("4: a line and the end", Check.faultOf("frozen 20;"), 7);
        Check.due("4: the 3rd line and an 11th", Check.faultOf("thaw;thaw;!;thaw;thaw;thaw;thaw;thaw;thaw;thaw;thaw"), 10);
    }

    /** "X, Y of a SQUARE that there is behind the LINES ahead". */
    private static void squaresBehindTheLinesAhead() {
        MovedFold fold = Check.told("field 5 2");
        Check.write(fold, "field 2 5;lane 1 4;field 10 1;lane 9 0;field 1 1;lane 0 0;field 5 2;lane 4 1");
        Check.due("4: each field has its own squares", fold.fault(), NONE);
        fold.erase();
        Check.write(fold, "field 2 2;lane 4 1");
        Check.due("4: not those of the field as it is", fold.fault(), 15);
        fold.erase();
        Check.write(fold, "lane 4 1");
        Check.due("4: a field that was not done changes none", fold.fault(), NONE);
        fold.erase();
        Check.write(fold, "lane 4 1;field 1 1;lane 4 1");
        Check.due("4: behind a smaller field", fold.fault(), 24);
        fold.erase();
        Check.write(fold, "field 3 4;lane 4 1");
        Check.due("4: the faulty size is first", fold.fault(), 8);
        fold.erase();
        Check.write(fold, "lane 5 0");
        Check.due("4: behind the last column", fold.fault(), 5);
        fold.erase();
        Check.write(fold, "lane 0 2");
        Check.due("4: behind the last row", fold.fault(), 7);
    }

    /** "The place of the FAULT ..; NONE": asking does nothing. "NOT: it has a FAULT": nothing changes. */
    private static void faultChangesNothing() {
        MovedFold fold = Check.told("field 2 1;rest 3");
        fold.fold(1);
        Check.write(fold, "field 3 3;rest 9;hurdles 1");
        Check.due("4: no fault", fold.fault(), NONE);
        Check.due("4: no fault, asked again", fold.fault(), NONE);
        Check.due("4: asking lays no field", fold.count(0), 2);
        Check.due("4: asking tells no rest", fold.count(6), 3);
        Check.due("4: asking leaves the row", fold.count(4), 1);
        Check.due("4: asking leaves the text", fold.count(3), 26);
        fold.write(';', 1);
        Check.due("4: the end too soon", fold.fault(), 27);
        Check.due("5: NOT", fold.field(), NOT);
        Check.due("5: NOT again", fold.field(), NOT);
        Check.due("5: NOT lays no field", fold.count(0), 2);
        Check.due("5: NOT tells no rest", fold.count(6), 3);
        Check.due("5: NOT leaves the row", fold.count(4), 1);
        Check.due("5: NOT leaves the text", fold.count(3), 27);
        Check.write(fold, "thaw");
        Check.due("5: the text goes on", fold.field(), 4);
        Check.due("5: its field is laid", fold.count(0), 9);
    }

    /** "THE TEXT's LINES are done, and it is empty then: how many there were. NOT: it has a FAULT." */
    private static void fieldDone() {
        MovedFold fold = new MovedFold();
        Check.due("5: an empty text has a fault", fold.field(), NOT);
        Check.write(fold, "rest 6");
        Check.due("5: one line", fold.field(), 1);
        Check.due("5: the text is empty", fold.count(3), 0);
        Check.due("5: it is not done twice", fold.field(), NOT);
        Check.due("4: nothing is left of it", fold.fault(), 0);
        Check.write(fold, "rest 7");
        Check.due("5: the next text begins anew", fold.field(), 1);
        Check.due("5: its line is done", fold.count(6), 7);
        Check.tell(fold, "rest 1;rest 2;hurdles 5;hurdles 4");
        Check.due("5: lines are done in their order: rest", fold.count(6), 2);
        Check.due("5: lines are done in their order: hurdles", fold.count(5), 4);
        Check.tell(fold, "yards 0 0 5;pond 0 0;yards 0 0 3;lane 0 0;yards 0 0 8");
        Check.due("5: lines are done in their order: yards", fold.square(0), 8);
    }

    /** "field: all SQUARES have 1 YARD, there are no HEDGES, the ROW is empty". */
    private static void fieldEmptiesTheRow() {
        String full = "field 2 2;yards 0 0 0;yards 1 0 9;pond 0 1;lane 1 1;hedge 0 0 left;hedge 1 1 down;hedge 0 0 right";
        for (String text : new String[] {"field 2 2", "field 2 2;thaw", "thaw;field 2 2", "pond 0 0;hedge 1 0 up;field 2 2"}) {
            MovedFold fold = Check.told(full);
            for (int night = 0; night < 20; night++) {
                fold.fold(1);
            }
            Check.tell(fold, text);
            for (int square = 0; square < 4; square++) {
                Check.due("5: square " + square + " by " + text, fold.square(square), 1);
            }
            for (int edge = 0; edge < 12; edge++) {
                Check.due("5: hedge " + edge + " by " + text, fold.hedge(edge), 0);
            }
            Check.due("5: the row by " + text, fold.count(4), 0);
            Check.due("16: no night is left by " + text, fold.moved(0, 0), UNKNOWN);
            Check.due("12: the first night by " + text, fold.fold(15), 1);
        }
        MovedFold fold = Check.told(full);
        fold.fold(1);
        Check.tell(fold, "yards 0 0 1;pond 1 0;lane 0 1;hedge 0 0 up;open 0 0 up;hurdles 1;want 1;rest 1;frozen 1;thaw");
        Check.due("5: no other line empties the row", fold.count(4), 1);
        Check.tell(fold, "field 2 1;lane 1 0;field 5 2");
        Check.due("5: a lane of the field ahead is gone", fold.square(1), 1);
    }

    /** "what earlier texts told stays, where nothing else is told". */
    private static void toldStays() {
        MovedFold fold = Check.told("field 2 2;yards 0 0 4;pond 1 0;hedge 0 1 down;hurdles 7;want 3;want 2;rest 5;frozen 4");
        Check.tell(fold, "lane 0 1");
        int[] squares = {4, 10, 11, 1};
        for (int i = 0; i < 4; i++) {
            Check.due("6: square " + i + " stays", fold.square(i), squares[i]);
        }
        Check.due("7: the hedge stays", fold.hedge(10), 1);
        Check.tell(fold, "field 3 3");
        Check.due("25: hurdles stay behind field", fold.count(5), 7);
        Check.due("25: rest stays behind field", fold.count(6), 5);
        Check.due("25: entries stay behind field", fold.count(7), 2);
        Check.due("8: wants stay behind field", fold.night(1, 0), 2);
        Check.due("8: frost stays behind field", fold.night(4, 1), 1);
        Check.tell(fold, "thaw");
        Check.due("25: hurdles stay behind thaw", fold.count(5), 7);
        Check.due("25: rest stays behind thaw", fold.count(6), 5);
        Check.due("25: no entries behind thaw", fold.count(7), 0);
        Check.due("25: squares stay behind thaw", fold.count(0), 9);
    }

    /** "yards: also of what was POND or LANE, which it is no more"; "10 POND, 11 LANE"; "(these have none)". */
    private static void turnipsPondsLanes() {
        MovedFold fold = Check.told("field 2 1;yards 0 0 9");
        Check.tell(fold, "pond 0 0");
        Check.due("6: a pond", fold.square(0), 10);
        Check.due("11: it has no yards", fold.yards(1), 0);
        Check.due("9: it is no fold", fold.sides(1), NONE);
        Check.due("9: nor beside it a side", fold.sides(2), 3);
        Check.tell(fold, "lane 0 0");
        Check.due("6: the pond is a lane", fold.square(0), 11);
        Check.due("11: it has no yards either", fold.yards(3), 1);
        Check.due("9: beside a lane is a side", fold.sides(2), 4);
        Check.tell(fold, "pond 0 0");
        Check.due("6: the lane is a pond", fold.square(0), 10);
        Check.tell(fold, "yards 0 0 0");
        Check.due("6: it is a pond no more, with 0 yards", fold.square(0), 0);
        Check.due("9: it is a fold", fold.sides(1), 4);
        Check.due("9: the side is back", fold.sides(2), 4);
        Check.tell(fold, "lane 0 0;yards 0 0 9");
        Check.due("6: it is a lane no more, with 9 yards", fold.square(0), 9);
        Check.due("6: square -1", fold.square(-1), UNKNOWN);
        Check.due("6: square 2", fold.square(2), UNKNOWN);
        Check.due("6: square 10", fold.square(10), UNKNOWN);
        Check.tell(fold, "field 10 1;yards 9 0 3");
        Check.due("6: the last square of all", fold.square(9), 3);
        Check.due("6: one more", fold.square(10), UNKNOWN);
    }

    /** "by a row of 7 at most (NIGHT i: entry i modulo how many there are; 1 without)"; "an eighth is passed over". */
    private static void wants() {
        for (int many = 0; many <= 10; many++) {
            MovedFold fold = new MovedFold();
            for (int i = 0; i < many; i++) {
                Check.tell(fold, "want " + (80 + i));
            }
            int entries = Math.min(7, many);
            Check.due("25: entries of " + many, fold.count(7), entries);
            for (int night = 0; night < 20; night++) {
                Check.due("8: night " + night + " of " + many, fold.night(night, 0), many == 0 ? 1 : 80 + night % entries);
            }
            Check.tell(fold, "thaw");
            Check.due("25: thaw of " + many, fold.count(7), 0);
            Check.due("8: 1 without, behind thaw of " + many, fold.night(3, 0), 1);
            Check.tell(fold, "want 0");
            Check.due("8: the first entry again", fold.night(19, 0), 0);
        }
        MovedFold fold = Check.told("want 1;want 2;want 3;want 4;want 5;want 6;want 7;want 8;want 9");
        Check.due("8: in one text too: the 7th", fold.night(6, 0), 7);
        Check.due("8: in one text too: none passed over is there", fold.night(7, 0), 1);
    }

    /** "frozen: NIGHT N, too; thaw: no FROZEN NIGHTS"; "NIGHT (0 .. 19) ..; UNKNOWN; OUTSIDE". */
    private static void frozenNights() {
        MovedFold fold = new MovedFold();
        for (int last = 0; last < 20; last += 3) {
            Check.tell(fold, "frozen " + last);
            for (int night = 0; night < 20; night++) {
                Check.due("8: night " + night + " up to " + last, fold.night(night, 1), night <= last && night % 3 == 0 ? 1 : 0);
            }
        }
        Check.tell(fold, "frozen 19;frozen 19;frozen 0");
        Check.due("8: frozen twice", fold.night(19, 1), 1);
        Check.tell(fold, "thaw;frozen 5");
        Check.due("8: behind thaw", fold.night(5, 1), 1);
        Check.due("8: ahead of thaw", fold.night(19, 1), 0);
        Check.due("8: night 0 thawed", fold.night(0, 1), 0);
        for (int night : new int[] {-1, 20, 32, 37, Integer.MIN_VALUE, Integer.MAX_VALUE}) {
            for (int what = -1; what <= 2; what++) {
                Check.due("8: night " + night + ", what " + what, fold.night(night, what), UNKNOWN);
            }
        }
        for (int what : new int[] {-1, 2, Integer.MIN_VALUE, Integer.MAX_VALUE}) {
            Check.due("8: what " + what + " of night 0", fold.night(0, what), OUTSIDE);
            Check.due("8: what " + what + " of night 19", fold.night(19, what), OUTSIDE);
        }
    }

    private static List<int[]> allSizes() {
        List<int[]> sizes = new ArrayList<>();
        for (int w = 1; w <= 10; w++) {
            for (int h = 1; w * h <= 10; h++) {
                sizes.add(new int[] {w, h});
            }
        }
        return sizes;
    }

    private static long bytesOf(String text) {
        long bytes = 0;
        for (int i = 0; i < text.length(); i++) {
            bytes |= (long) (text.charAt(i) & 255) << (8 * i);
        }
        return bytes;
    }

    private static void fill(MovedFold fold, int n) {
        Check.write(fold, " ".repeat(n));
    }

    /** The line with another token in one place. */
    private static String with(String[] tokens, int at, String other) {
        String[] changed = tokens.clone();
        changed[at] = other;
        return String.join(" ", changed);
    }

    private static int placeOf(String[] tokens, int at) {
        int place = 0;
        for (int i = 0; i < at; i++) {
            place += tokens[i].length() + 1;
        }
        return place;
    }

    /** The fault of a text in a field of 3 by 2. */
    private static int faultIn(String text) {
        MovedFold fold = Check.told("field 3 2");
        Check.write(fold, text);
        return fold.fault();
    }
}
