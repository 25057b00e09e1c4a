/** Counts the answers that are not as due, for one test. */
final class Check {
    private static int wrong = 0;
    private static int asked = 0;

    private Check() {
    }

    static void due(String call, long got, long want) {
        asked++;
        if (got != want) {
            wrong++;
            System.out.println(call + " answered " + got + ", due is " + want);
        }
    }

    static int wrongSoFar() {
        return wrong;
    }

    static void end() {
        System.out.println(asked + " answers asked, " + wrong + " not as due");
        if (wrong != 0 || asked == 0) {
            System.exit(1);
        }
    }

    /** Writes a text, eight bytes at a time; the last answer of write. */
    static int write(MovedFold fold, String text) {
        int answer = fold.count(3);
        for (int from = 0; from < text.length(); from += 8) {
            int n = Math.min(8, text.length() - from);
            long bytes = 0;
            for (int i = 0; i < n; i++) {
                bytes |= (long) (text.charAt(from + i) & 255) << (8 * i);
            }
            answer = fold.write(bytes, n);
        }
        return answer;
    }

    /** A new object that was told a text. */
    static MovedFold told(String text) {
        MovedFold fold = new MovedFold();
        tell(fold, text);
        return fold;
    }

    static void tell(MovedFold fold, String text) {
        fold.erase();
        due("write " + text, write(fold, text), text.length());
        due("field of " + text, fold.field(), text.split(";").length);
    }

    /** Where a new object finds the fault of a text. */
    static int faultOf(String text) {
        MovedFold fold = new MovedFold();
        write(fold, text);
        return fold.fault();
    }
}
