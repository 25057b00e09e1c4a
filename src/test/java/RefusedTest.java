import java.util.ArrayList;
import java.util.List;
import java.util.function.Supplier;
import java.util.function.ToLongFunction;

/**
 * "Refused, and nothing changes": two objects are made alike, one has the refused call besides, and then all that
 * can be seen of both is compared. Calls that only ask are looked at in the same way.
 */
final class RefusedTest {
    private static final int NONE = -1, UNKNOWN = -2, OUTSIDE = -3, NOT = -4, FULL = -5;
    private static final int[] WRONG_YARDS = {-1, 91, Integer.MIN_VALUE, Integer.MAX_VALUE};
    private static final String RICH = "field 3 2;yards 0 0 9;pond 1 0;lane 2 1;hedge 0 1 down;hurdles 6;want 3;want 0;rest 2;frozen 2";

    private record Call(String name, long due, ToLongFunction<MovedFold> call) {
    }

    public static void main(String[] args) {
        refusedAlways();
        refusedWhenFull();
        refusedWhenFaulty();
        asking();
        orderOfAsking();
        Check.end();
    }

    /** A field with something of everything, a row that is not good, a text that has a fault. */
    private static MovedFold rich() {
        MovedFold fold = Check.told(RICH);
        for (int set : new int[] {1, 8, 8, 24, 5}) {
            fold.fold(set);
        }
        Check.write(fold, "rest 5;thaw;wa");
        return fold;
    }

    private static MovedFold full() {
        MovedFold fold = Check.told("field 2 1;rest 1");
        for (int night = 0; night < 20; night++) {
            fold.fold(1 + night % 2);
        }
        Check.write(fold, " ".repeat(196) + "thaw");
        return fold;
    }

    private static void refusedAlways() {
        List<Call> calls = new ArrayList<>();
        for (int n : new int[] {-1, 0, 9, Integer.MIN_VALUE, Integer.MAX_VALUE}) {
            calls.add(new Call("2: write(.., " + n + ")", OUTSIDE, f -> f.write(0x7461687477616874L, n)));
        }
        for (int square : new int[] {-1, 6, 10, Integer.MAX_VALUE}) {
            calls.add(new Call("6: square(" + square + ")", UNKNOWN, f -> f.square(square)));
        }
        for (int edge : new int[] {-1, 17, 31, 32, Integer.MIN_VALUE}) {
            calls.add(new Call("7: hedge(" + edge + ")", UNKNOWN, f -> f.hedge(edge)));
        }
        for (int night : new int[] {-1, 20, Integer.MAX_VALUE}) {
            calls.add(new Call("8: night(" + night + ", 2)", UNKNOWN, f -> f.night(night, 2)));
            calls.add(new Call("16: moved(" + night + ", 2)", UNKNOWN, f -> f.moved(night, 2)));
        }
        calls.add(new Call("8: night(0, 2)", OUTSIDE, f -> f.night(0, 2)));
        calls.add(new Call("16: moved(5, 0)", UNKNOWN, f -> f.moved(5, 0)));
        calls.add(new Call("16: moved(0, 2)", OUTSIDE, f -> f.moved(0, 2)));
        calls.add(new Call("16: moved(4, 1)", NONE, f -> f.moved(4, 1)));
        for (int set : new int[] {-1, 64, 1024, Integer.MIN_VALUE, Integer.MAX_VALUE}) {
            calls.add(new Call("9: sides(" + set + ")", OUTSIDE, f -> f.sides(set)));
            calls.add(new Call("10: edges(" + set + ")", OUTSIDE, f -> f.edges(set)));
            calls.add(new Call("11: yards(" + set + ")", OUTSIDE, f -> f.yards(set)));
            calls.add(new Call("12: fold(" + set + ")", OUTSIDE, f -> f.fold(set)));
        }
        addFewest(calls);
        for (Call call : calls) {
            changesNothing("rich", RefusedTest::rich, call);
        }
    }

    private static void addFewest(List<Call> calls) {
        for (int n : WRONG_YARDS) {
            calls.add(new Call("17: few(" + n + ", 0)", OUTSIDE, f -> f.few(n, 0)));
            calls.add(new Call("18: two(" + n + ", 0, 0)", OUTSIDE, f -> f.two(n, 0, 0)));
            calls.add(new Call("18: two(0, " + n + ", 0)", OUTSIDE, f -> f.two(0, n, 0)));
            calls.add(new Call("19: fewest(" + n + ")", OUTSIDE, f -> f.fewest(n)));
            calls.add(new Call("20: best(" + n + ", 9, 0)", OUTSIDE, f -> f.best(n, 9, 0)));
            calls.add(new Call("20: best(1, " + n + ", 0)", OUTSIDE, f -> f.best(1, n, 0)));
            calls.add(new Call("21: courses(" + n + ", 9)", OUTSIDE, f -> f.courses(n, 9)));
            calls.add(new Call("21: courses(1, " + n + ")", OUTSIDE, f -> f.courses(1, n)));
            calls.add(new Call("22: round(" + n + ")", OUTSIDE, f -> f.round(n)));
            calls.add(new Call("23: broken(" + n + ", 9)", OUTSIDE, f -> f.broken(n, 9)));
            calls.add(new Call("23: broken(1, " + n + ")", OUTSIDE, f -> f.broken(1, n)));
            calls.add(new Call("24: goes(true, " + n + ", 0)", OUTSIDE, f -> f.goes(true, n, 0)));
            calls.add(new Call("24: goes(false, 1, " + n + ")", OUTSIDE, f -> f.goes(false, 1, n)));
            calls.add(new Call("25: count(" + n + ")", OUTSIDE, f -> f.count(n)));
        }
        calls.add(new Call("17: few(0, 2)", OUTSIDE, f -> f.few(0, 2)));
        calls.add(new Call("18: two(0, 0, 3)", OUTSIDE, f -> f.two(0, 0, 3)));
        calls.add(new Call("19: fewest(0)", OUTSIDE, f -> f.fewest(0)));
        calls.add(new Call("20: best(1, 9, -3)", OUTSIDE, f -> f.best(1, 9, -3)));
        calls.add(new Call("23: broken(1, 0)", OUTSIDE, f -> f.broken(1, 0)));
    }

    /** The row has 20 nights, the text 200 bytes. */
    private static void refusedWhenFull() {
        for (int n = 1; n <= 8; n++) {
            int bytes = n;
            changesNothing("full", RefusedTest::full, new Call("2: write of " + n, FULL, f -> f.write(0x3b3b3b3b3b3b3b3bL, bytes)));
        }
        changesNothing("full", RefusedTest::full, new Call("2: write of 9", OUTSIDE, f -> f.write(0, 9)));
        for (int set = 0; set < 4; set++) {
            int more = set;
            changesNothing("full", RefusedTest::full, new Call("12: fold(" + set + ")", FULL, f -> f.fold(more)));
        }
        changesNothing("full", RefusedTest::full, new Call("12: fold(4)", OUTSIDE, f -> f.fold(4)));
    }

    /** "NOT: it has a FAULT": in the first line, in a later one, at the end. */
    private static void refusedWhenFaulty() {
        String[] texts = {
            "", "   ", "fold", "field 3 3;hurdles 0;rest 9;!", "field 1 1;want 90;want 80;frozen 0;", "thaw;yards 0 0 10",
            "pond 0 0;lane 1 0;hedge 0 0 up;open 0 1 down;yards 2 1 5;lane 3 0"};
        for (String text : texts) {
            Supplier<MovedFold> made = () -> {
                MovedFold fold = rich();
                fold.erase();
                Check.write(fold, text);
                return fold;
            };
            changesNothing("text " + text, made, new Call("5: field()", NOT, MovedFold::field));
        }
    }

    /** No call but write, erase, field, fold and clear changes anything. */
    private static void asking() {
        List<ToLongFunction<MovedFold>> asked = List.of(
            MovedFold::fault, f -> f.square(1), f -> f.hedge(0), f -> f.night(2, 1), f -> f.sides(9), f -> f.edges(9),
            f -> f.yards(63), MovedFold::judge, MovedFold::why, f -> f.moved(3, 1), f -> f.few(5, 0), f -> f.two(1, 1, 2),
            f -> f.fewest(3), f -> f.best(2, 8, 0), f -> f.courses(1, 9), f -> f.round(2), f -> f.broken(1, 9),
            f -> f.goes(true, 2, 0), f -> f.count(3));
        for (int i = 0; i < asked.size(); i++) {
            long answer = asked.get(i).applyAsLong(rich());
            changesNothing("rich", RefusedTest::rich, new Call("asking " + i, answer, asked.get(i)));
        }
    }

    /** What was asked ahead leaves no trace in what is asked then. */
    private static void orderOfAsking() {
        List<ToLongFunction<MovedFold>> asked = List.of(
            f -> f.fewest(1), f -> f.fewest(9), f -> f.best(1, 8, -2), f -> f.best(2, 8, 0), f -> f.best(1, 60, 1),
            f -> f.courses(1, 8), f -> f.courses(2, 60), f -> f.round(1), f -> f.round(9), f -> f.broken(1, 8),
            f -> f.broken(2, 9), f -> f.few(3, 0), f -> f.two(1, 2, 1), f -> f.goes(true, 3, 1), f -> f.goes(false, 2, 0));
        for (int first = 0; first < asked.size(); first++) {
            for (int second = 0; second < asked.size(); second++) {
                long due = asked.get(second).applyAsLong(Check.told("field 3 3;yards 0 0 5;pond 1 1"));
                MovedFold fold = Check.told("field 3 3;yards 0 0 5;pond 1 1");
                asked.get(first).applyAsLong(fold);
                Check.due("asking " + second + " behind " + first, asked.get(second).applyAsLong(fold), due);
            }
        }
    }

    private static void changesNothing(String state, Supplier<MovedFold> made, Call call) {
        MovedFold called = made.get();
        Check.due(call.name() + " in " + state, call.call().applyAsLong(called), call.due());
        List<Long> without = allSeen(made.get());
        List<Long> with = allSeen(called);
        for (int i = 0; i < without.size(); i++) {
            Check.due(call.name() + " in " + state + ", what is seen at " + i, with.get(i), without.get(i));
        }
    }

    /** All that can be seen, in fewer than 512 calls; at last the text, by being gone on with and done. */
    private static List<Long> allSeen(MovedFold fold) {
        List<Long> seen = new ArrayList<>();
        for (int what = 0; what < 8; what++) {
            seen.add((long) fold.count(what));
        }
        for (int i = 0; i < 10; i++) {
            seen.add((long) fold.square(i));
        }
        for (int edge = 0; edge < 31; edge++) {
            seen.add((long) fold.hedge(edge));
        }
        for (int night = 0; night < 20; night++) {
            seen.add((long) fold.night(night, 0));
            seen.add((long) fold.night(night, 1));
            seen.add((long) fold.moved(night, 0));
            seen.add((long) fold.moved(night, 1));
        }
        for (int set = 0; set < 64; set++) {
            seen.add(fold.edges(set));
            seen.add((long) fold.yards(set));
        }
        seen.add((long) fold.judge());
        seen.add((long) fold.why());
        for (int w = 1; w < 10; w += 4) {
            seen.add((long) fold.fewest(w));
            seen.add((long) fold.best(w, 8, 0));
            seen.add((long) fold.courses(w, 9));
            seen.add((long) fold.round(w));
        }
        seen.add((long) fold.fault());
        seen.add((long) Check.write(fold, "nt 7"));
        seen.add((long) fold.field());
        seen.add((long) fold.count(6));
        seen.add((long) fold.night(0, 0));
        seen.add((long) fold.night(2, 1));
        seen.add((long) fold.clear());
        return seen;
    }
}
