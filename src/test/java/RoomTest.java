import java.lang.management.ManagementFactory;

/** All calls of one run share one room, so an object is small and its calls make nothing. */
final class RoomTest {
    /** Some 19,000 numbers an object, in bytes; a run may make some of them. */
    private static final long MOST_BYTES_OF_OBJECT = 100_000;
    /** The machine's own first uses of a method may make a little. */
    private static final long MOST_BYTES_OF_CALLS = 20_000;
    private static final String[] FIELDS = {"field 5 2;pond 1 0", "field 10 1;lane 9 0", "field 3 3;yards 1 1 0", "field 1 1"};

    public static void main(String[] args) {
        if (!(ManagementFactory.getThreadMXBean() instanceof com.sun.management.ThreadMXBean threads)
            || !threads.isThreadAllocatedMemorySupported()) {
            Check.due("this machine does not tell what is made", 0, 0);
            Check.end();
            return;
        }
        useAll(new MovedFold());
        long before = threads.getCurrentThreadAllocatedBytes();
        MovedFold fold = new MovedFold();
        long made = threads.getCurrentThreadAllocatedBytes() - before;
        Check.due("bytes of an object: " + made, made <= MOST_BYTES_OF_OBJECT ? 1 : 0, 1);
        for (String field : FIELDS) {
            Check.tell(fold, field);
            before = threads.getCurrentThreadAllocatedBytes();
            useAll(fold);
            made = threads.getCurrentThreadAllocatedBytes() - before;
            Check.due("bytes made by calls in " + field + ": " + made, made <= MOST_BYTES_OF_CALLS ? 1 : 0, 1);
        }
        Check.end();
    }

    /** Each call some times, 80 calls in all; a text is written and done too. */
    private static void useAll(MovedFold fold) {
        for (int i = 0; i < 3; i++) {
            fold.write(0x77616874L, 4);
            fold.fault();
            fold.field();
            fold.write(0x77616874L, 4);
            fold.erase();
            fold.square(i);
            fold.hedge(i);
            fold.night(i, 1);
            fold.sides(i);
            fold.edges(i);
            fold.yards(i);
            fold.fold(1);
            fold.judge();
            fold.why();
            fold.moved(i, 1);
            fold.few(i, 0);
            fold.two(i, 1, 2);
            fold.fewest(i + 1);
            fold.best(i + 1, 12, 0);
            fold.courses(i + 1, 12);
            fold.round(i + 1);
            fold.broken(i + 1, 12);
            fold.goes(true, i + 1, 1);
            fold.goes(false, i + 1, 1);
            fold.count(i);
        }
        fold.clear();
    }
}
