import java.util.ArrayList;
import java.util.List;
import java.util.function.Consumer;

/**
 * The boundary cases that the document names for HISTORY, ERRORS and promise 21, and what all
 * promises share. A method holds one sentence, which stands before it; each story begins with the
 * part of the document or the number of the promise.
 */
public final class HistoryEdgesTest {
    private static final int BAD = SlidingBlocks.BAD;
    private static final int STATE = SlidingBlocks.STATE;
    private static final int NONE = SlidingBlocks.NONE;
    private static final int RIGHT = 1;
    private static final int DOWN = 2;
    private static final int LEFT = 3;
    private static final String PAIR = "ab./...";
    private static final String ROW = "a.....";

    private HistoryEdgesTest() {
    }

    public static void main(String[] args) {
        noneAtFirst();
        tenAreKept();
        elevenDropTheOldest();
        manyDropAllButTen();
        fullAndUndoneAndFullAgain();
        eachActIsKept();
        actsThatLeaveAllAsItWas();
        whatIsNoAct();
        refusedActsWithRoom();
        refusedActsWhenFull();
        undoRestoresTheFrame();
        undoRestoresTheGoal();
        undoRestoresTheRecord();
        undoLeavesTheBuffer();
        undoRemoves();
        undoOfNothing();
        actAfterUndo();
        mixedSizes();
        firstOfSeveralErrors();
        callsOnANewObject();
        twoObjects();
        fiveHundredCalls();
        Check.end();
    }

    private static void steps(SlidingBlocks x, int count) {
        for (int i = 0; i < count; i++) {
            x.step(0, x.block(0, 0) == 0 || i % 2 == 0 ? RIGHT : LEFT);
        }
    }

    /** Promise 21: "NONE if it has none". */
    private static void noneAtFirst() {
        SlidingBlocks x = new SlidingBlocks();
        Check.due("21: none at first", x.undo(), NONE);
        Check.due("21: none again", x.undo(), NONE);
        Start.type(x, "a");
        Check.due("21: a character is no act", x.undo(), NONE);
        x.read();
        Check.due("21: one act, none left", x.undo(), 0);
        Check.due("21: then none", x.undo(), NONE);
        Twin.refused("21: none", y -> Start.type(y, "ab/"), y -> y.undo(), NONE);
        Twin.refused("21: none left", y -> {
            Start.read(y, "ab.");
            y.undo();
        }, y -> y.undo(), NONE);
    }

    /** HISTORY: "at most 10 states": ten are kept, all of them. */
    private static void tenAreKept() {
        SlidingBlocks x = Start.with(ROW);
        for (int place = 1; place <= 5; place++) {
            x.step(0, RIGHT);
        }
        for (int place = 4; place >= 1; place--) {
            x.step(0, LEFT);
        }
        int[] places = {2, 3, 4, 5, 4, 3, 2, 1, 0};
        for (int i = 0; i < places.length; i++) {
            Check.due("HISTORY: undo() " + (i + 1), x.undo(), 9 - i);
            Check.due("HISTORY: the place before", x.block(0, 0), places[i]);
        }
        Check.due("HISTORY: the tenth is the reading", x.undo(), 0);
        Check.due("HISTORY: the first frame", x.frame(2), 0);
        Check.due("HISTORY: no more", x.undo(), NONE);
    }

    /** HISTORY: "if there are 10 already, the oldest one is dropped": it, and no other. */
    private static void elevenDropTheOldest() {
        SlidingBlocks x = Start.with(ROW);
        for (int act = 0; act < 10; act++) {
            x.goal(0, act % 6);
        }
        for (int left = 9; left >= 0; left--) {
            Check.due("HISTORY: undo() of eleven", x.undo(), left);
            Check.due("HISTORY: the goal before", x.frame(7), left == 0 ? NONE : (left - 1) % 6);
        }
        Check.due("HISTORY: the first frame was dropped", x.undo(), NONE);
        Check.due("HISTORY: the frame that was read stays", x.frame(0), 6);
    }

    /** HISTORY: the same after many more acts than are kept. */
    private static void manyDropAllButTen() {
        for (int acts = 9; acts <= 43; acts++) {
            SlidingBlocks x = new SlidingBlocks();
            Start.read(x, "a...../....../....../......");
            for (int act = 1; act < acts; act++) {
                x.goal(0, act % 24);
            }
            int kept = Math.min(acts, 10);
            for (int left = kept - 1; left >= 0; left--) {
                Check.due("HISTORY: undo() of " + acts, x.undo(), left);
                int before = acts - 1 - (kept - left);
                Check.due("HISTORY: the goal before", x.frame(7), before < 1 ? NONE : before % 24);
            }
            Check.due("HISTORY: no more of " + acts, x.undo(), NONE);
        }
    }

    /** HISTORY: undone ones make room; what is added then comes behind those that are left. */
    private static void fullAndUndoneAndFullAgain() {
        SlidingBlocks x = Start.with(ROW);
        List<Integer> kept = new ArrayList<>();
        kept.add(NONE);
        int now = NONE;
        for (int round = 0; round < 12; round++) {
            for (int act = 0; act < 7; act++) {
                kept.add(now);
                now = (round * 5 + act) % 6;
                x.goal(0, now);
                if (kept.size() > 10) {
                    kept.remove(0);
                }
            }
            for (int undone = 0; undone < 4; undone++) {
                now = kept.remove(kept.size() - 1);
                Check.due("HISTORY: round " + round, x.undo(), kept.size());
                Check.due("HISTORY: the goal of round " + round, x.frame(7), now);
            }
        }
    }

    private static void anAct(String story, Consumer<SlidingBlocks> act) {
        SlidingBlocks x = Start.with(PAIR, 0, 5);
        x.step(0, DOWN);
        long before = x.fingerprint();
        act.accept(x);
        Check.due(story + " is one act", x.undo(), 3);
        Check.due(story + " is undone whole", x.fingerprint(), before);
    }

    /** HISTORY: "Each call described as an act that returns no error adds the state before it". */
    private static void eachActIsKept() {
        anAct("4: read()", x -> Start.read(x, "a.b"));
        anAct("8: step()", x -> x.step(1, RIGHT));
        anAct("9: slide()", x -> x.slide(1, 5));
        anAct("10: goal()", x -> x.goal(1, 3));
        anAct("15: follow(false)", x -> x.follow(false));
        anAct("15: follow(true)", x -> x.follow(true));
        anAct("17: hardest(false)", x -> x.hardest(false));
        anAct("17: hardest(true)", x -> x.hardest(true));
    }

    /** HISTORY: "also if it leaves all as it was". */
    private static void actsThatLeaveAllAsItWas() {
        SlidingBlocks goal = Start.with(PAIR, 0, 5);
        long before = goal.fingerprint();
        Check.due("HISTORY: the same goal again", goal.goal(0, 5), 0);
        Check.due("HISTORY: nothing has changed", goal.fingerprint(), before);
        Check.due("HISTORY: it is an act", goal.undo(), 2);
        SlidingBlocks read = Start.with(PAIR);
        Start.read(read, PAIR);
        Check.due("HISTORY: the same frame again", read.undo(), 1);
        SlidingBlocks hardest = Start.with(ROW, 0, 5);
        hardest.hardest(false);
        hardest.hardest(false);
        Check.due("HISTORY: the hardest start again", hardest.undo(), 3);
        Check.due("HISTORY: it is where it was", hardest.block(0, 0), 0);
        SlidingBlocks first = new SlidingBlocks();
        Start.read(first, ".");
        Check.due("HISTORY: the first frame read", first.undo(), 0);
    }

    /** HISTORY: what is not described as an act adds no state. */
    private static void whatIsNoAct() {
        SlidingBlocks x = Start.with(PAIR, 0, 5);
        x.type('a');
        x.clear();
        x.type('a');
        x.frame(0);
        x.cell(0);
        x.block(0, 0);
        x.states();
        x.solved();
        x.distance(true);
        x.hint(true);
        x.worst(true);
        x.mean(true);
        x.places(0);
        x.without(1, true);
        x.fingerprint();
        Check.due("HISTORY: two acts", x.undo(), 1);
        Check.due("HISTORY: the goal is undone", x.frame(6), NONE);
        Check.due("HISTORY: undo() is none itself", x.undo(), 0);
        Check.due("HISTORY: nor is the second one", x.undo(), NONE);
    }

    private static void refusedActs(String story, Consumer<SlidingBlocks> setup) {
        Twin.refused(story + ", read()", setup.andThen(x -> Start.type(x, "a!")), x -> x.read(), -101);
        Twin.refused(story + ", step() BAD", setup, x -> x.step(2, 0), BAD);
        Twin.refused(story + ", step() STATE", setup, x -> x.step(0, DOWN), STATE);
        Twin.refused(story + ", slide() BAD", setup, x -> x.slide(0, 6), BAD);
        Twin.refused(story + ", slide() STATE", setup, x -> x.slide(0, 2), STATE);
        Twin.refused(story + ", goal() BAD", setup, x -> x.goal(0, 6), BAD);
        Twin.refused(story + ", follow() STATE", setup, x -> x.follow(true), STATE);
        Twin.refused(story + ", hardest() STATE", setup, x -> x.hardest(true), STATE);
    }

    /** ERRORS: "A call that returns an error changes nothing": acts that are refused, with room in the history. */
    private static void refusedActsWithRoom() {
        refusedActs("ERRORS: with room", x -> {
            Start.read(x, "a.#/##b");
            x.goal(0, 2);
            x.step(0, RIGHT);
        });
    }

    /** ERRORS: "A call that returns an error changes nothing": with 10 states kept, the oldest one stays. */
    private static void refusedActsWhenFull() {
        refusedActs("ERRORS: full", x -> {
            Start.read(x, "a.#/##b");
            x.goal(0, 0);
            x.goal(0, 1);
            x.goal(0, 2);
            steps(x, 6);
        });
    }

    /** Promise 21: "Undoes the latest act": the frame with all its blocks. */
    private static void undoRestoresTheFrame() {
        SlidingBlocks x = Start.with("a.b/#../cc.");
        x.slide(1, 8);
        long before = x.fingerprint();
        Start.read(x, "aaaa/a..a/....");
        Check.due("21: a reading is undone", x.undo(), 2);
        Check.due("21: all as before", x.fingerprint(), before);
        Check.due("21: its width", x.frame(0), 3);
        Check.due("21: its walls", x.cell(3), -10);
        Check.due("21: its blocks' places", x.block(1, 0), 8);
        Check.due("21: their shapes", x.block(2, 2), 2);
        Check.due("21: they move as before", x.step(1, 0), 5);
    }

    /** HISTORY: "(frame, goal, [..])". */
    private static void undoRestoresTheGoal() {
        SlidingBlocks x = Start.with(PAIR);
        x.goal(0, 0);
        x.goal(1, 4);
        x.undo();
        Check.due("21: its block", x.frame(6), 0);
        Check.due("21: its place", x.frame(7), 0);
        Check.due("21: solved as before", x.frame(8), 1);
        x.step(0, DOWN);
        x.undo();
        Check.due("21: a step leaves the goal", x.frame(6), 0);
        x.undo();
        Check.due("21: no goal", x.frame(6), NONE);
        Check.due("21: no place", x.frame(7), NONE);
    }

    /** HISTORY: "record with the block of the latest move". */
    private static void undoRestoresTheRecord() {
        SlidingBlocks x = Start.with(PAIR, 0, 5);
        x.slide(0, 5);
        x.step(1, RIGHT);
        x.hardest(true);
        Check.due("21: 0 by hardest()", x.frame(4) + x.frame(5), 0);
        x.undo();
        Check.due("21: the steps", x.frame(4), 4);
        Check.due("21: the slides", x.frame(5), 2);
        x.step(1, LEFT);
        Check.due("21: block 1 moved latest", x.frame(5), 2);
        x.undo();
        x.undo();
        Check.due("21: the steps of the slide", x.frame(4), 3);
        x.step(0, LEFT);
        Check.due("21: block 0 moved latest", x.frame(5), 1);
        x.undo();
        x.undo();
        Check.due("21: no steps", x.frame(4), 0);
        x.step(1, RIGHT);
        Check.due("21: no block moved latest", x.frame(5), 1);
    }

    /** HISTORY: "not the buffer". */
    private static void undoLeavesTheBuffer() {
        SlidingBlocks x = new SlidingBlocks();
        Start.type(x, "a.");
        x.read();
        x.undo();
        Check.due("21: what was read does not come back", x.clear(), 0);
        Start.type(x, "ab");
        x.read();
        Start.type(x, "b..");
        x.undo();
        Check.due("21: what was typed since stays", x.type('.'), 4);
        Check.due("21: and can be read", x.read(), 1);
        Check.due("21: as it was typed", x.frame(0), 4);
    }

    /** Promise 21: "undo() removes the latest one": each is undone once. */
    private static void undoRemoves() {
        SlidingBlocks x = Start.with(ROW);
        x.step(0, RIGHT);
        x.step(0, RIGHT);
        Check.due("21: the second step", x.undo(), 2);
        Check.due("21: its place", x.block(0, 0), 1);
        Check.due("21: the first step", x.undo(), 1);
        Check.due("21: its place", x.block(0, 0), 0);
    }

    /** ERRORS: an undo() that answers NONE changes nothing. */
    private static void undoOfNothing() {
        SlidingBlocks x = Start.with(ROW);
        steps(x, 12);
        for (int i = 0; i < 10; i++) {
            x.undo();
        }
        long last = x.fingerprint();
        for (int i = 0; i < 12; i++) {
            Check.due("21: none", x.undo(), NONE);
            Check.due("21: it stays", x.fingerprint(), last);
        }
        Check.due("21: still two steps", x.frame(4), 2);
    }

    /** HISTORY: an act after undo() adds the state that undo() restored. */
    private static void actAfterUndo() {
        SlidingBlocks x = Start.with(ROW);
        x.step(0, RIGHT);
        x.step(0, RIGHT);
        x.undo();
        x.slide(0, 5);
        Check.due("HISTORY: the undone step is gone", x.undo(), 2);
        Check.due("HISTORY: before the slide", x.block(0, 0), 1);
        Check.due("HISTORY: before the step", x.undo(), 1);
        Check.due("HISTORY: its place", x.block(0, 0), 0);
        Check.due("HISTORY: before the reading", x.undo(), 0);
        Check.due("HISTORY: the first frame", x.frame(0), 1);
    }

    /** HISTORY: frames of all sizes, one after another. */
    private static void mixedSizes() {
        String[] texts = {"a", "a...../....../....../......", ".", "abcdef/.....g", "a/./././.", "#", "ab/..", "a.b"};
        SlidingBlocks x = new SlidingBlocks();
        long[] prints = new long[texts.length];
        for (int i = 0; i < texts.length; i++) {
            prints[i] = x.fingerprint();
            Start.read(x, texts[i]);
        }
        for (int i = texts.length - 1; i >= 0; i--) {
            Check.due("HISTORY: back before " + texts[i], x.undo(), i);
            Check.due("HISTORY: as it was before " + texts[i], x.fingerprint(), prints[i]);
        }
    }

    /** ERRORS: "If several errors apply to a call, the one listed first is returned." */
    private static void firstOfSeveralErrors() {
        String many = "abcd../....../....../......";
        SlidingBlocks x = Start.with(many);
        Start.type(x, ".".repeat(40));
        Check.due("ERRORS: 2, BAD before FULL", x.type(31), BAD);
        Check.due("ERRORS: 8, BAD before STATE", x.step(4, 0), BAD);
        Check.due("ERRORS: 9, BAD before STATE", x.slide(4, 0), BAD);
        Check.due("ERRORS: 12, STATE before FULL", x.solved(), STATE);
        Check.due("ERRORS: 13, STATE before FULL", x.distance(true), STATE);
        Check.due("ERRORS: 14, STATE before FULL", x.hint(true), STATE);
        Check.due("ERRORS: 16, STATE before FULL", x.worst(true), STATE);
        Check.due("ERRORS: 19, BAD before FULL", x.places(4), BAD);
        Check.due("ERRORS: 20, BAD before STATE", x.without(4, true), BAD);
        Check.due("ERRORS: 20, STATE before FULL", x.without(0, true), STATE);
        x.goal(0, 0);
        Check.due("ERRORS: 20, BAD before FULL", x.without(4, true), BAD);
        Check.due("ERRORS: 20, STATE of the goal's before FULL", x.without(0, true), STATE);
        Check.due("ERRORS: 14, FULL before NONE", x.hint(true), SlidingBlocks.FULL);
    }

    /** ERRORS: each call on a new object that can be refused is, and changes nothing. */
    private static void callsOnANewObject() {
        Consumer<SlidingBlocks> nothing = x -> { };
        Twin.refused("ERRORS: type()", nothing, x -> x.type(0), BAD);
        Twin.refused("ERRORS: read()", nothing, x -> x.read(), -100);
        Twin.refused("ERRORS: frame()", nothing, x -> x.frame(9), BAD);
        Twin.refused("ERRORS: cell()", nothing, x -> x.cell(1), BAD);
        Twin.refused("ERRORS: block()", nothing, x -> x.block(0, 0), BAD);
        Twin.refused("ERRORS: step()", nothing, x -> x.step(0, 1), BAD);
        Twin.refused("ERRORS: slide()", nothing, x -> x.slide(0, 0), BAD);
        Twin.refused("ERRORS: goal()", nothing, x -> x.goal(0, 0), BAD);
        Twin.refused("ERRORS: solved()", nothing, x -> x.solved(), STATE);
        Twin.refused("ERRORS: places()", nothing, x -> x.places(0), BAD);
        Twin.refused("ERRORS: without()", nothing, x -> x.without(0, true), BAD);
        Twin.refused("ERRORS: undo()", nothing, x -> x.undo(), NONE);
        Twin.unchanged("ERRORS: clear()", nothing, x -> x.clear());
    }

    /** Each object is its own: what one is told, another does not know. */
    private static void twoObjects() {
        SlidingBlocks one = Start.with(PAIR, 0, 5);
        SlidingBlocks other = Start.with(ROW, 0, 3);
        one.type('a');
        one.step(0, DOWN);
        Check.due("1: its own frame", other.frame(1), 1);
        Check.due("1: its own record", other.frame(4), 0);
        Check.due("1: its own goal", other.frame(7), 3);
        Check.due("1: its own buffer", other.clear(), 0);
        Check.due("1: its own states", other.states(), 6);
        Check.due("1: its own distance", one.distance(false), 2);
        Check.due("1: the other's distance", other.distance(false), 3);
        Check.due("1: its own history", other.undo(), 1);
        Check.due("1: the one's history", one.undo(), 2);
    }

    /** "An object is used for at most 512 calls after it has been made": the last one is as good as the first. */
    private static void fiveHundredCalls() {
        SlidingBlocks x = new SlidingBlocks();
        int calls = 0;
        for (; calls < 2; calls++) {
            x.type(calls == 0 ? 'a' : '.');
        }
        x.read();
        x.goal(0, 1);
        calls += 2;
        for (; calls < 510; calls++) {
            boolean there = x.step(0, calls % 2 == 0 ? RIGHT : LEFT) >= 0;
            Check.due("call " + calls, there ? 1 : 0, 1);
        }
        Check.due("the steps of all calls", x.frame(4), 506);
        Check.due("one slide", x.frame(5), 1);
    }
}
