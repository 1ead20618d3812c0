import java.util.ArrayList;
import java.util.List;
import java.util.function.Consumer;
import java.util.function.ToDoubleFunction;

/**
 * Objects made alike, one of which takes a call more: when the call is refused, or is none of the
 * acts, it must be as the other in all that can be seen, also in what only later calls show: the
 * states that the history holds, the block of the latest move and the buffer.
 */
final class Twin {
    private static final int MOST_BLOCKS = 7;
    private static final int DIRECTIONS = 4;

    private Twin() {
    }

    /** The call answers this error, and changes nothing. */
    static void refused(String story, Consumer<SlidingBlocks> setup, ToDoubleFunction<SlidingBlocks> call, double due) {
        double got = call.applyAsDouble(made(setup, x -> { }));
        Check.due(story + ": answered " + got + " for " + due, got == due ? 1 : 0, 1);
        unchanged(story, setup, call);
    }

    /** The call changes nothing, whatever it answers. */
    static void unchanged(String story, Consumer<SlidingBlocks> setup, ToDoubleFunction<SlidingBlocks> call) {
        List<Long> before = seen(setup, x -> { });
        List<Long> after = seen(setup, x -> call.applyAsDouble(x));
        Check.due(story + ": changes nothing, " + before + " then " + after, before.equals(after) ? 1 : 0, 1);
    }

    /** The two ways to make an object leave it in the same state, but for the history and the buffer. */
    static void alike(String story, Consumer<SlidingBlocks> one, Consumer<SlidingBlocks> other) {
        List<Long> first = new ArrayList<>();
        List<Long> second = new ArrayList<>();
        look(made(one, x -> { }), first);
        look(made(other, x -> { }), second);
        Check.due(story + ": " + first + " and " + second, first.equals(second) ? 1 : 0, 1);
    }

    private static SlidingBlocks made(Consumer<SlidingBlocks> setup, Consumer<SlidingBlocks> call) {
        SlidingBlocks x = new SlidingBlocks();
        setup.accept(x);
        call.accept(x);
        return x;
    }

    private static List<Long> seen(Consumer<SlidingBlocks> setup, Consumer<SlidingBlocks> call) {
        List<Long> all = new ArrayList<>();
        lookAtHistory(made(setup, call), all);
        look(made(setup, call), all);
        lookAtBuffer(made(setup, call), all);
        return all;
    }

    private static void lookAtHistory(SlidingBlocks x, List<Long> all) {
        all.add(x.fingerprint());
        for (int left = x.undo(); left >= 0; left = x.undo()) {
            all.add((long) left);
            look(x, all);
        }
    }

    /** All numbers, and which block moved latest: its next step counts no slide. */
    private static void look(SlidingBlocks x, List<Long> all) {
        all.add(x.fingerprint());
        for (int block = 0; block < MOST_BLOCKS && x.block(block, 0) >= 0; block++) {
            for (int direction = 0; direction < DIRECTIONS; direction++) {
                if (x.step(block, direction) >= 0) {
                    all.add((long) x.frame(5));
                    x.undo();
                    break;
                }
            }
        }
    }

    private static void lookAtBuffer(SlidingBlocks x, List<Long> all) {
        all.add((long) x.read());
        all.add(x.fingerprint());
        all.add((long) x.clear());
    }
}
