import java.lang.management.ManagementFactory;
import java.lang.reflect.Constructor;
import java.lang.reflect.Field;
import java.lang.reflect.Method;
import java.lang.reflect.Modifier;
import java.util.Arrays;
import java.util.List;
import java.util.Set;
import java.util.TreeSet;
import java.util.function.ToDoubleFunction;

/** The face of the class, the room that an object takes, and wrong arguments of every kind. */
public final class FaceTest {
    private static final String[] METHODS = {
        "int type(int)", "int clear()", "int read()", "int frame(int)", "int cell(int)",
        "int block(int,int)", "int step(int,int)", "int slide(int,int)", "int goal(int,int)",
        "int states()", "int solved()", "int distance(boolean)", "int hint(boolean)",
        "int follow(boolean)", "int worst(boolean)", "int hardest(boolean)", "float mean(boolean)",
        "int places(int)", "int without(int,boolean)", "int undo()", "long fingerprint()",
    };
    private static final int BAD_DUE = SlidingBlocks.BAD;
    private static final com.sun.management.ThreadMXBean THREADS =
        (com.sun.management.ThreadMXBean) ManagementFactory.getThreadMXBean();
    private static final int MOST_CALLS = 512;
    /** 7.3 million fields and elements, of four bytes at least. */
    private static final long ROOM = 7_300_000L * 4;

    private FaceTest() {
    }

    public static void main(String[] args) {
        face();
        constants();
        room();
        wrongArguments();
        manyReadings();
        Check.end();
    }

    private static void face() {
        Set<String> found = new TreeSet<>();
        for (Method method : SlidingBlocks.class.getDeclaredMethods()) {
            if (!Modifier.isPrivate(method.getModifiers())) {
                found.add(method.toString().replace("public ", "").replace("SlidingBlocks.", ""));
            }
        }
        Set<String> due = new TreeSet<>(Arrays.asList(METHODS));
        Check.due("the face " + found, found.equals(due) ? 1 : 0, 1);
        Constructor<?>[] constructors = SlidingBlocks.class.getDeclaredConstructors();
        Check.due("constructors", constructors.length, 1);
        Check.due("public", Modifier.isPublic(constructors[0].getModifiers()) ? 1 : 0, 1);
        Check.due("final", Modifier.isFinal(SlidingBlocks.class.getModifiers()) ? 1 : 0, 1);
    }

    private static void constants() {
        Check.due("BAD", SlidingBlocks.BAD, -1);
        Check.due("STATE", SlidingBlocks.STATE, -2);
        Check.due("FULL", SlidingBlocks.FULL, -3);
        Check.due("NONE", SlidingBlocks.NONE, -9);
        int open = 0;
        for (Field field : SlidingBlocks.class.getDeclaredFields()) {
            open += Modifier.isPrivate(field.getModifiers()) ? 0 : 1;
        }
        Check.due("fields that are not private", open, 4);
    }

    /**
     * All calls of one run live in one room that is never given back: what the constructor makes, and
     * what 512 of the dearest call make, must have room in it.
     */
    private static void room() {
        long made = Long.MAX_VALUE;
        for (int round = 0; round < 5; round++) {
            long before = bytes();
            SlidingBlocks x = new SlidingBlocks();
            made = Math.min(made, bytes() - before);
            Check.due("a new object", x.frame(0), 1);
        }
        long dearest = 0;
        for (ToDoubleFunction<SlidingBlocks> call : calls()) {
            dearest = Math.max(dearest, leastBytes(call));
        }
        System.out.println("a new object takes " + made + " bytes, the dearest call " + dearest);
        Check.due("room for all calls of a run", made + MOST_CALLS * dearest <= ROOM ? 1 : 0, 1);
    }

    /** The machine makes objects of its own when a call is made for the first time: so the least of a few. */
    private static long leastBytes(ToDoubleFunction<SlidingBlocks> call) {
        long least = Long.MAX_VALUE;
        for (int round = 0; round < 5; round++) {
            SlidingBlocks x = Start.with("....#./#....b/..#..b/#ccd..", 2, 5);
            Start.type(x, "a..b/.##./c..d");
            long before = bytes();
            call.applyAsDouble(x);
            least = Math.min(least, bytes() - before);
        }
        return least;
    }

    private static long bytes() {
        return THREADS.getCurrentThreadAllocatedBytes();
    }

    private static List<ToDoubleFunction<SlidingBlocks>> calls() {
        return List.of(x -> x.type('a'), x -> x.clear(), x -> x.read(), x -> x.frame(3), x -> x.cell(3),
            x -> x.block(0, 5), x -> x.step(2, 1), x -> x.slide(2, 5), x -> x.goal(1, 0), x -> x.states(),
            x -> x.solved(), x -> x.distance(true), x -> x.hint(true), x -> x.follow(true), x -> x.follow(false),
            x -> x.worst(false), x -> x.hardest(true), x -> x.mean(true), x -> x.places(0), x -> x.without(0, true),
            x -> x.undo(), x -> x.fingerprint());
    }

    private static void wrongArguments() {
        int[] odd = {Integer.MIN_VALUE, -1000, -33, -32, -25, -10, -9, -3, -2, -1, 7, 8, 24, 25, 31, 32, 33, 40,
            64, 1000, Integer.MAX_VALUE};
        for (String text : new String[] {"", "a..b/.##./c..d", "abcdefg/......."}) {
            SlidingBlocks x = Start.with(text);
            x.clear();
            long before = x.fingerprint();
            for (int n : odd) {
                Check.due("type", n < 32 || n > 126 ? x.type(n) : BAD_DUE, BAD_DUE);
                Check.due("frame", n != 7 && n != 8 ? x.frame(n) : BAD_DUE, BAD_DUE);
                Check.due("cell", n < 0 || n > 23 ? x.cell(n) : BAD_DUE, BAD_DUE);
                Check.due("block", x.block(n, 0), BAD_DUE);
                Check.due("what", x.block(0, n), BAD_DUE);
                Check.due("step", x.step(n, 0), BAD_DUE);
                Check.due("direction", x.step(0, n), BAD_DUE);
                Check.due("slide", x.slide(n, 0), BAD_DUE);
                Check.due("place", n < 0 || n > 23 ? x.slide(0, n) : BAD_DUE, BAD_DUE);
                Check.due("goal", x.goal(n, 0), BAD_DUE);
                Check.due("its place", n < 0 || n > 23 ? x.goal(0, n) : BAD_DUE, BAD_DUE);
                Check.due("places", x.places(n), BAD_DUE);
                Check.due("without", x.without(n, true), BAD_DUE);
            }
            Check.due("nothing changed", x.fingerprint(), before);
        }
    }

    /** Far more acts than are kept, with frames of other sizes between. */
    private static void manyReadings() {
        SlidingBlocks x = new SlidingBlocks();
        String[] texts = {"a", "ab./...", "......", "a.#b/..#."};
        int[] states = {1, 30, 1, 8};
        for (int i = 0; i < 25; i++) {
            Start.type(x, texts[i % 4]);
            x.read();
            Check.due("states of " + texts[i % 4], x.states(), states[i % 4]);
        }
        for (int i = 23; i > 14; i--) {
            x.undo();
            Check.due("states of " + texts[i % 4] + " after undo()", x.states(), states[i % 4]);
        }
    }
}
