import java.lang.reflect.Array;
import java.lang.reflect.Constructor;
import java.lang.reflect.Field;
import java.lang.reflect.Method;
import java.lang.reflect.Modifier;
import java.util.ArrayDeque;
import java.util.Arrays;
import java.util.Collections;
import java.util.IdentityHashMap;
import java.util.Set;
import java.util.TreeSet;

/** The face of the class, the room that an object takes, and wrong arguments of every kind. */
public final class FaceTest {
    private static final String[] METHODS = {
        "int type(int)", "int clear()", "int read()", "int frame(int)", "int cell(int)",
        "int block(int,int)", "int step(int,int)", "int slide(int,int)", "int goal(int,int)",
        "int states()", "int solved()", "int distance(boolean)", "int hint(boolean)",
        "int follow(boolean)", "int worst(boolean)", "int hardest(boolean)", "float mean(boolean)",
        "int places(int)", "int without(int,boolean)", "int undo()", "long fingerprint()",
    };
    private static final int BAD_DUE = SlidingBlocks.BAD;
    private static final int MOST_FIELDS = 40_000;
    private static final int MOST_OBJECTS = 200;

    private FaceTest() {
    }

    public static void main(String[] args) throws Exception {
        face();
        constants();
        room();
        noNewObjects();
        wrongArguments();
        manyReadings();
        Check.end();
    }

    private static void face() {
        Set<String> found = new TreeSet<>();
        for (Method method : SlidingBlocks.class.getDeclaredMethods()) {
            if (!Modifier.isPrivate(method.getModifiers())) {
                found.add(method.toString().replace("public ", "").replace("SlidingBlocks.", ""));
            }
        }
        Set<String> due = new TreeSet<>(Arrays.asList(METHODS));
        Check.due("the face " + found, found.equals(due) ? 1 : 0, 1);
        Constructor<?>[] constructors = SlidingBlocks.class.getDeclaredConstructors();
        Check.due("constructors", constructors.length, 1);
        Check.due("public", Modifier.isPublic(constructors[0].getModifiers()) ? 1 : 0, 1);
        Check.due("final", Modifier.isFinal(SlidingBlocks.class.getModifiers()) ? 1 : 0, 1);
    }

    private static void constants() {
        Check.due("BAD", SlidingBlocks.BAD, -1);
        Check.due("STATE", SlidingBlocks.STATE, -2);
        Check.due("FULL", SlidingBlocks.FULL, -3);
        Check.due("NONE", SlidingBlocks.NONE, -9);
        int open = 0;
        for (Field field : SlidingBlocks.class.getDeclaredFields()) {
            open += Modifier.isPrivate(field.getModifiers()) ? 0 : 1;
        }
        Check.due("fields that are not private", open, 4);
    }

    private static void room() throws Exception {
        int objects = 0;
        int fields = 0;
        Set<Object> seen = Collections.newSetFromMap(new IdentityHashMap<>());
        ArrayDeque<Object> queue = new ArrayDeque<>();
        queue.add(new SlidingBlocks());
        while (!queue.isEmpty()) {
            Object object = queue.remove();
            if (!seen.add(object)) {
                continue;
            }
            objects++;
            if (object.getClass().isArray()) {
                fields += Array.getLength(object);
                boolean numbers = object.getClass().getComponentType().isPrimitive();
                for (int i = 0; !numbers && i < Array.getLength(object); i++) {
                    queue.add(Array.get(object, i));
                }
                continue;
            }
            for (Field field : object.getClass().getDeclaredFields()) {
                if (Modifier.isStatic(field.getModifiers())) {
                    continue;
                }
                fields++;
                if (!field.getType().isPrimitive()) {
                    field.setAccessible(true);
                    queue.add(field.get(object));
                }
            }
        }
        System.out.println("a new object takes " + objects + " objects with " + fields + " fields and elements");
        Check.due("few objects", objects <= MOST_OBJECTS ? 1 : 0, 1);
        Check.due("few fields", fields <= MOST_FIELDS ? 1 : 0, 1);
    }

    /** Whatever is called, the rows made in the constructor must do: the room is never given back. */
    private static void noNewObjects() {
        com.sun.management.ThreadMXBean threads =
            (com.sun.management.ThreadMXBean) java.lang.management.ManagementFactory.getThreadMXBean();
        SlidingBlocks x = new SlidingBlocks();
        char[] text = "a..b/.##./c..d".toCharArray();
        long least = Long.MAX_VALUE;
        for (int round = 0; round < 5; round++) {
            long before = threads.getCurrentThreadAllocatedBytes();
            everyCall(x, text);
            least = Math.min(least, threads.getCurrentThreadAllocatedBytes() - before);
        }
        Check.due("bytes of new objects, small", least < 1000 ? 1 : 0, 1);
    }

    private static long everyCall(SlidingBlocks x, char[] text) {
        long sum = 0;
        x.clear();
        for (char c : text) {
            sum += x.type(c);
        }
        sum += x.read() + x.goal(0, 11) + x.states() + x.solved() + x.step(0, 1) + x.slide(0, 2);
        for (int slides = 0; slides < 2; slides++) {
            boolean s = slides == 1;
            sum += x.distance(s) + x.hint(s) + x.follow(s) + x.worst(s) + x.without(1, s);
            sum += (long) x.mean(s) + x.hardest(s);
        }
        return sum + x.places(0) + x.fingerprint() + x.undo();
    }

    private static void wrongArguments() {
        int[] odd = {Integer.MIN_VALUE, -1000, -33, -32, -25, -10, -9, -3, -2, -1, 7, 8, 24, 25, 31, 32, 33, 40,
            64, 1000, Integer.MAX_VALUE};
        for (String text : new String[] {"", "a..b/.##./c..d", "abcdefg/......."}) {
            SlidingBlocks x = Start.with(text);
            x.clear();
            long before = x.fingerprint();
            for (int n : odd) {
                Check.due("type", n < 32 || n > 126 ? x.type(n) : BAD_DUE, BAD_DUE);
                Check.due("frame", n != 7 && n != 8 ? x.frame(n) : BAD_DUE, BAD_DUE);
                Check.due("cell", n < 0 || n > 23 ? x.cell(n) : BAD_DUE, BAD_DUE);
                Check.due("block", x.block(n, 0), BAD_DUE);
                Check.due("what", x.block(0, n), BAD_DUE);
                Check.due("step", x.step(n, 0), BAD_DUE);
                Check.due("direction", x.step(0, n), BAD_DUE);
                Check.due("slide", x.slide(n, 0), BAD_DUE);
                Check.due("place", n < 0 || n > 23 ? x.slide(0, n) : BAD_DUE, BAD_DUE);
                Check.due("goal", x.goal(n, 0), BAD_DUE);
                Check.due("its place", n < 0 || n > 23 ? x.goal(0, n) : BAD_DUE, BAD_DUE);
                Check.due("places", x.places(n), BAD_DUE);
                Check.due("without", x.without(n, true), BAD_DUE);
            }
            Check.due("nothing changed", x.fingerprint(), before);
        }
    }

    /** Far more acts than are kept, with frames of other sizes between. */
    private static void manyReadings() {
        SlidingBlocks x = new SlidingBlocks();
        String[] texts = {"a", "ab./...", "......", "a.#b/..#."};
        int[] states = {1, 30, 1, 8};
        for (int i = 0; i < 25; i++) {
            Start.type(x, texts[i % 4]);
            x.read();
            Check.due("states of " + texts[i % 4], x.states(), states[i % 4]);
        }
        for (int i = 23; i > 14; i--) {
            x.undo();
            Check.due("states of " + texts[i % 4] + " after undo()", x.states(), states[i % 4]);
        }
    }
}
