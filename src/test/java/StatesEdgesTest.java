import java.util.function.Consumer;
import java.util.function.ToDoubleFunction;

/**
 * The boundary cases that the document names for what is searched: STATES, THE DISTANCE and the
 * promises 11 to 20 and 22. A method holds one sentence, which stands before it; each story begins
 * with the part of the document or the number of the promise.
 */
public final class StatesEdgesTest {
    private static final int BAD = SlidingBlocks.BAD;
    private static final int STATE = SlidingBlocks.STATE;
    private static final int FULL = SlidingBlocks.FULL;
    private static final int NONE = SlidingBlocks.NONE;
    private static final int RIGHT = 1;
    private static final int DOWN = 2;
    private static final int LEFT = 3;
    private static final int[] FAR_OFF = {Integer.MIN_VALUE, Integer.MIN_VALUE + 1, -1000, -32, 32, Integer.MAX_VALUE};

    /** Exactly 2000 states; with one block more than that; and 2001 with it or without it. */
    private static final String MOST = "....#./#....b/..#..b/#ccd..";
    private static final String MOST_AND_Z = "z...#./#....b/..#..b/#ccd..";
    private static final String ONE_TOO_MANY = ".acc#h/.d.#../.d####/..bb..";
    private static final String ONE_TOO_MANY_AND_Z = ".acc#h/.d.#.z/.d####/..bb..";
    /** The goal's place is behind a wall. */
    private static final String NEVER = "ab#./..#.";

    private StatesEdgesTest() {
    }

    public static void main(String[] args) {
        statesItself();
        statesCounted();
        statesBeyond2000();
        statesOfThePresentFrame();
        orderOfStates();
        solvedStates();
        solvedRefused();
        distanceOfSolved();
        distanceByStepsAndSlides();
        distanceFollowsTheGoal();
        distanceRefused();
        hintSmallestBlock();
        hintSmallestPlace();
        hintLessByOne();
        hintNumbers();
        hintRefused();
        followAll();
        followAnswersTheRest();
        followRefused();
        worstOfAll();
        worstRefused();
        hardestFirst();
        hardestIsAnAct();
        hardestRefused();
        meanAsFloats();
        meanRefused();
        placesSet();
        placesRefused();
        withoutABlock();
        withoutKeepsTheNumbers();
        withoutOfThePresentState();
        withoutTooMany();
        withoutRefused();
        fingerprintNumbers();
        fingerprintOverflow();
        searchesAreNoActs();
        Check.end();
    }

    private static Consumer<SlidingBlocks> setup(String text, int goalBlock, int goalPlace) {
        return x -> {
            Start.read(x, text);
            if (goalBlock >= 0) {
                x.goal(goalBlock, goalPlace);
            }
            Start.type(x, "a.");
        };
    }

    /** STATES: "All states that can be reached from the present one by moves (itself included)". */
    private static void statesItself() {
        Check.due("STATES: no block", Start.with("...").states(), 1);
        Check.due("STATES: no free cell", Start.with("ab/cd").states(), 1);
        Check.due("STATES: walls alone", Start.with("##/##").states(), 1);
        Check.due("STATES: shut in by a wall", Start.with("a#.").states(), 1);
        Check.due("STATES: two", Start.with("a.").states(), 2);
        Check.due("STATES: the greatest block", Start.with("aaaaaa/aaaaaa/aaaaaa/aaaaaa").states(), 1);
        Check.due("STATES: seven that cannot move", Start.with("abc/def/ggg").states(), 1);
    }

    /** STATES: "A state is told by the places of all blocks": like blocks are told apart. */
    private static void statesCounted() {
        Check.due("STATES: one block, all cells", Start.with("a...../....../....../......").states(), 24);
        Check.due("STATES: in a row they keep their order", Start.with("ab....").states(), 15);
        Check.due("STATES: six in a row of six", Start.with("abcdef").states(), 1);
        Check.due("STATES: where they can pass", Start.with("ab./...").states(), 30);
        Check.due("STATES: a turn of three", Start.with("ab/c.").states(), 12);
        Check.due("STATES: two rooms", Start.with("a.#../####b").states(), 6);
        Check.due("STATES: two blocks in two rooms", Start.with("a..#b.").states(), 6);
        Check.due("STATES: wide ones", Start.with("aa../bb..").states(), 22);
    }

    /** STATES: "if there are more than 2000, they are too many". */
    private static void statesBeyond2000() {
        Check.due("11: 2000", Start.with(MOST).states(), 2000);
        Check.due("11: 2001", Start.with(ONE_TOO_MANY).states(), FULL);
        Check.due("11: 2001 in two rooms", Start.with(ONE_TOO_MANY_AND_Z).states(), FULL);
        Check.due("11: very many", Start.with("abcdef/g...../....../......").states(), FULL);
        Twin.refused("11: 2001", setup(ONE_TOO_MANY, -1, 0), x -> x.states(), FULL);
        SlidingBlocks x = Start.with(MOST);
        x.slide(2, 0);
        x.step(1, RIGHT);
        Check.due("11: 2000 from another one", x.states(), 2000);
        Start.read(x, ONE_TOO_MANY);
        Check.due("11: then 2001", x.states(), FULL);
        x.undo();
        Check.due("11: then 2000 again", x.states(), 2000);
    }

    /** Promise 11: "the states that can be reached" are those of the frame as it is now. */
    private static void statesOfThePresentFrame() {
        SlidingBlocks x = new SlidingBlocks();
        Check.due("11: at first", x.states(), 1);
        Start.read(x, "a..");
        Check.due("11: read", x.states(), 3);
        Start.read(x, "a#.");
        Check.due("11: read once more", x.states(), 1);
        Start.read(x, "a!");
        Check.due("11: after a fault", x.states(), 1);
        x.undo();
        Check.due("11: undone", x.states(), 3);
        x.undo();
        Check.due("11: undone to the first frame", x.states(), 1);
    }

    /** STATES: "States are ordered by the place of block 0, then by that of block 1, and so on." */
    private static void orderOfStates() {
        SlidingBlocks x = Start.with(".a.#b./######/.c....", 1, 4);
        Check.due("STATES: the greatest distance", x.hardest(false), 1);
        Check.due("STATES: the least place of block 0", x.block(0, 0), 0);
        Check.due("STATES: the place of block 1 is given", x.block(1, 0), 5);
        Check.due("STATES: the least place of block 2", x.block(2, 0), 12);
        SlidingBlocks y = Start.with("ab../....", 0, 3);
        y.hardest(true);
        Check.due("STATES: block 0 before block 1", y.block(0, 0), 0);
        Check.due("STATES: then block 1", y.block(1, 0), 3);
        SlidingBlocks z = Start.with("b.../...a", 1, 0);
        Check.due("STATES: steps from the far corner", z.hardest(false), 5);
        Check.due("STATES: block 0 as far up as it can be", z.block(0, 0), 0);
        Check.due("STATES: the goal's block", z.block(1, 0), 7);
        SlidingBlocks line = Start.with("..a..", 0, 2);
        line.hardest(false);
        Check.due("STATES: the first of two ends", line.block(0, 0), 0);
        SlidingBlocks last = Start.with("a.#b.c", 0, 0);
        last.step(1, RIGHT);
        last.hardest(true);
        Check.due("STATES: the block in the middle", last.block(1, 0), 3);
        Check.due("STATES: the last block", last.block(2, 0), 4);
    }

    /** Promise 12: "Counts the solved states that can be reached." */
    private static void solvedStates() {
        Check.due("12: none", Start.with(NEVER, 0, 3).solved(), 0);
        Check.due("12: one", Start.with("a..", 0, 2).solved(), 1);
        Check.due("12: all", Start.with("a#b..", 0, 0).solved(), 3);
        Check.due("12: the present one alone", Start.with("a", 0, 0).solved(), 1);
        Check.due("12: one for each place of the other", Start.with("ab./...", 0, 5).solved(), 5);
        Check.due("12: the block's place, not another's", Start.with("ab.", 0, 1).solved(), 1);
        SlidingBlocks x = Start.with("a..#b.", 0, 2);
        Check.due("12: for each place in the other room", x.solved(), 2);
        x.goal(1, 4);
        Check.due("12: of the goal as it is now", x.solved(), 3);
        x.undo();
        Check.due("12: undone", x.solved(), 2);
        Check.due("12: of 2000", Start.with(MOST, 2, 5).solved(), 113);
    }

    /** Promise 12: "STATE if there is no goal; FULL if the states are too many". */
    private static void solvedRefused() {
        Twin.refused("12: no goal", setup("ab.", -1, 0), x -> x.solved(), STATE);
        Twin.refused("12: STATE before FULL", setup(ONE_TOO_MANY, -1, 0), x -> x.solved(), STATE);
        Twin.refused("12: 2001", setup(ONE_TOO_MANY, 0, 0), x -> x.solved(), FULL);
        Twin.refused("12: 2001 though solved", setup(ONE_TOO_MANY, 0, 1), x -> x.solved(), FULL);
    }

    /** THE DISTANCE is "the least number": 0 where it is solved. */
    private static void distanceOfSolved() {
        for (boolean slides : new boolean[] {false, true}) {
            Check.due("13: solved", Start.with("ab./...", 1, 1).distance(slides), 0);
            Check.due("13: solved where nothing moves", Start.with("a", 0, 0).distance(slides), 0);
            Check.due("13: one move away", Start.with("ab./...", 1, 2).distance(slides), 1);
        }
    }

    /** THE DISTANCE by steps, or by slides of as many steps as are wanted. */
    private static void distanceByStepsAndSlides() {
        SlidingBlocks x = Start.with("a...../....../....../......", 0, 23);
        Check.due("13: over the frame by steps", x.distance(false), 8);
        Check.due("13: over the frame by a slide", x.distance(true), 1);
        SlidingBlocks y = Start.with("a##/..#/#../##.", 0, 11);
        Check.due("13: down the stairs by steps", y.distance(false), 5);
        Check.due("13: down the stairs by a slide", y.distance(true), 1);
        SlidingBlocks z = Start.with("ab/..", 1, 0);
        Check.due("13: the other one must leave, by steps", z.distance(false), 2);
        Check.due("13: the other one must leave, by slides", z.distance(true), 2);
        SlidingBlocks away = Start.with("ab.", 0, 2);
        Check.due("13: never past it", away.distance(true), NONE);
        Check.due("13: 2000 by steps", Start.with(MOST, 2, 5).distance(false), 6);
        Check.due("13: 2000 by slides", Start.with(MOST, 2, 5).distance(true), 2);
    }

    /** Promise 13: "the distance of the present state" and of the present goal. */
    private static void distanceFollowsTheGoal() {
        SlidingBlocks x = Start.with("a.....", 0, 5);
        Check.due("13: to the end", x.distance(false), 5);
        x.goal(0, 2);
        Check.due("13: to the new goal", x.distance(false), 2);
        x.undo();
        Check.due("13: the goal before", x.distance(false), 5);
        x.slide(0, 4);
        Check.due("13: nearer", x.distance(false), 1);
        x.undo();
        Check.due("13: undone", x.distance(false), 5);
        Start.read(x, "a..#..");
        Check.due("13: no goal when read", x.distance(false), STATE);
        x.goal(0, 5);
        Check.due("13: the same goal in another frame", x.distance(false), NONE);
        x.goal(0, 2);
        Check.due("13: one that can be reached", x.distance(false), 2);
        x.undo();
        x.undo();
        x.undo();
        Check.due("13: the frame before", x.distance(false), 5);
    }

    /** Promise 13: "STATE if there is no goal; FULL [..]; NONE if no solved state can be reached". */
    private static void distanceRefused() {
        errorsOfASearch("13", (x, slides) -> x.distance(slides));
    }

    private interface Search {
        double of(SlidingBlocks x, boolean slides);
    }

    private static void errorsOfASearch(String promise, Search search) {
        for (boolean slides : new boolean[] {false, true}) {
            ToDoubleFunction<SlidingBlocks> call = x -> search.of(x, slides);
            Twin.refused(promise + ": a new object", x -> { }, call, STATE);
            Twin.refused(promise + ": no goal", setup("ab.", -1, 0), call, STATE);
            Twin.refused(promise + ": STATE before FULL", setup(ONE_TOO_MANY, -1, 0), call, STATE);
            Twin.refused(promise + ": 2001", setup(ONE_TOO_MANY, 0, 0), call, FULL);
            Twin.refused(promise + ": 2001 though solved", setup(ONE_TOO_MANY, 0, 1), call, FULL);
            Twin.refused(promise + ": never", setup(NEVER, 0, 3), call, NONE);
            Twin.refused(promise + ": never, on a wall", setup(NEVER, 1, 2), call, NONE);
        }
    }

    /** Promise 14: "the one with the smallest block". */
    private static void hintSmallestBlock() {
        Check.due("14: block 0, whose place is the greater", Start.with("a.c/...", 1, 0).hint(false), 3);
        Check.due("14: block 0 is the goal's", Start.with("c.a/...", 0, 2).hint(false), 1);
        Check.due("14: block 1 alone helps", Start.with("a.c/...", 1, 1).hint(false), 101);
        Check.due("14: block 0 must leave first", Start.with("ab/..", 1, 0).hint(true), 2);
        Check.due("14: block 1 must leave first", Start.with("ab/..", 0, 1).hint(true), 102);
    }

    /** Promise 14: "then with the smallest place to which it brings the block". */
    private static void hintSmallestPlace() {
        int[] corners = {0, 2, 6, 8};
        int[] steps = {1, 1, 3, 5};
        for (int i = 0; i < corners.length; i++) {
            SlidingBlocks x = Start.with(".../.a./...", 0, corners[i]);
            Check.due("14: a step to the corner " + corners[i], x.hint(false), steps[i]);
            Check.due("14: a slide to the corner " + corners[i], x.hint(true), corners[i]);
        }
        Check.due("14: out of the way, a step", Start.with("ab./...", 1, 0).hint(false), 3);
        Check.due("14: out of the way, a slide", Start.with("ab./...", 1, 0).hint(true), 2);
        Check.due("14: out of the way, to its left", Start.with("..a/##.", 0, 5).hint(true), 5);
    }

    /** Promise 14: "of all moves to states whose distance is less by 1". */
    private static void hintLessByOne() {
        Check.due("14: none from a solved one", Start.with("a....", 0, 0).hint(true), NONE);
        SlidingBlocks y = Start.with("a.../.##./....", 0, 11);
        Check.due("14: either way is as long", y.hint(false), 1);
        y.goal(0, 9);
        Check.due("14: the shorter way, though its place is greater", y.hint(false), 4);
        y.goal(0, 7);
        Check.due("14: the shorter way to the right", y.hint(false), 1);
        SlidingBlocks z = Start.with("...a", 0, 0);
        Check.due("14: a slide that halts on the way is no nearer", z.hint(true), 0);
        Check.due("14: a step is", z.hint(false), 2);
    }

    /** Promise 14: "Returns 100 times the block plus the place". */
    private static void hintNumbers() {
        Check.due("14: block 0, place 0", Start.with(".a", 0, 0).hint(true), 0);
        Check.due("14: block 0, place 23", Start.with("....../....../....../....a.", 0, 23).hint(false), 23);
        Check.due("14: block 6, place 23", Start.with("abc###/def###/######/####g.", 6, 23).hint(true), 623);
        Check.due("14: block 6, place 16", Start.with("abcdef/######/.....g", 6, 12).hint(false), 616);
        Check.due("14: block 6, place 12", Start.with("abcdef/######/.....g", 6, 12).hint(true), 612);
        SlidingBlocks x = Start.with("..a/.aa", 0, 0);
        Check.due("14: the corner, not a cell", x.hint(true), 0);
    }

    /** Promise 14: "STATE [..]; FULL [..]; NONE if no solved state can be reached, or it is solved". */
    private static void hintRefused() {
        errorsOfASearch("14", (x, slides) -> x.hint(slides));
        Twin.refused("14: solved", setup("ab./...", 0, 0), x -> x.hint(false), NONE);
        Twin.refused("14: solved, by slides", setup("ab./...", 0, 0), x -> x.hint(true), NONE);
        Twin.refused("14: solved, one state", setup("a", 0, 0), x -> x.hint(true), NONE);
        Twin.unchanged("14: a hint is no act", setup("ab./...", 0, 5), x -> x.hint(true));
    }

    /** Promise 15: "Makes the first move as hint() tells", each of them, to the end. */
    private static void followAll() {
        for (boolean slides : new boolean[] {false, true}) {
            SlidingBlocks x = Start.with("a..b/.##./c..d", 0, 11);
            int left = x.distance(slides);
            for (int i = 0; i < 20 && left > 0; i++) {
                int hint = x.hint(slides);
                Check.due("15: the rest", x.follow(slides), left - 1);
                Check.due("15: the move of hint()", x.block(hint / 100, 0), hint % 100);
                left--;
                Check.due("15: its distance", x.distance(slides), left);
            }
            Check.due("15: solved at the end", x.frame(8), 1);
            Check.due("15: then STATE", x.follow(slides), STATE);
            Check.due("15: and no move", x.block(0, 0), 11);
        }
    }

    /** Promise 15: "Returns the distance then". */
    private static void followAnswersTheRest() {
        Check.due("15: 0 when solved then", Start.with(".a", 0, 0).follow(false), 0);
        Check.due("15: 0 by a slide", Start.with("a....", 0, 4).follow(true), 0);
        Check.due("15: the rest by steps", Start.with("a....", 0, 4).follow(false), 3);
        SlidingBlocks x = Start.with(MOST, 2, 5);
        Check.due("15: in 2000 states by slides", x.follow(true), 1);
        Check.due("15: in 2000 states by a slide more", x.follow(true), 0);
        Check.due("15: an act each", x.undo(), 3);
        Check.due("15: one slide is undone", x.distance(true), 1);
    }

    /** Promise 15: "STATE if hint() would not tell a move". */
    private static void followRefused() {
        errorsBecomeState("15", (x, slides) -> x.follow(slides));
        Twin.refused("15: solved", setup("ab./...", 0, 0), x -> x.follow(false), STATE);
        Twin.refused("15: solved, by slides", setup("ab./...", 0, 0), x -> x.follow(true), STATE);
    }

    private static void errorsBecomeState(String promise, Search search) {
        for (boolean slides : new boolean[] {false, true}) {
            ToDoubleFunction<SlidingBlocks> call = x -> search.of(x, slides);
            Twin.refused(promise + ": a new object", x -> { }, call, STATE);
            Twin.refused(promise + ": no goal", setup("ab.", -1, 0), call, STATE);
            Twin.refused(promise + ": 2001, no goal", setup(ONE_TOO_MANY, -1, 0), call, STATE);
            Twin.refused(promise + ": 2001", setup(ONE_TOO_MANY, 0, 0), call, STATE);
            Twin.refused(promise + ": never", setup(NEVER, 0, 3), call, STATE);
        }
    }

    /** Promise 16: "the greatest distance of all states that can be reached". */
    private static void worstOfAll() {
        SlidingBlocks x = Start.with("..a...", 0, 1);
        Check.due("16: from the far end", x.worst(false), 4);
        Check.due("16: by slides", x.worst(true), 1);
        x.slide(0, 5);
        Check.due("16: the same from there", x.worst(false), 4);
        x.goal(0, 0);
        Check.due("16: of the new goal", x.worst(false), 5);
        Check.due("16: one state", Start.with("a", 0, 0).worst(false), 0);
        Check.due("16: solved in all states", Start.with("a#b..", 0, 0).worst(true), 0);
        Check.due("16: opposite, with the other at the goal", Start.with("ab/..", 0, 0).worst(false), 3);
        Check.due("16: 2000 by steps", Start.with(MOST, 2, 5).worst(false), 13);
        Check.due("16: 2000 by slides", Start.with(MOST, 2, 5).worst(true), 4);
        Check.due("16: behind a wall it does not count", Start.with("a..#...", 0, 0).worst(false), STATE);
        Check.due("16: what cannot be reached does not count", Start.with("a..#..", 0, 0).worst(false), 2);
    }

    /** Promise 16: "STATE if there is no goal; FULL [..]; NONE if no solved state can be reached". */
    private static void worstRefused() {
        errorsOfASearch("16", (x, slides) -> x.worst(slides));
    }

    /** Promise 17: "Brings the blocks to the first one of the states with the greatest distance". */
    private static void hardestFirst() {
        SlidingBlocks x = Start.with("..a...", 0, 1);
        Check.due("17: by steps", x.hardest(false), 4);
        Check.due("17: the far end", x.block(0, 0), 5);
        Check.due("17: by slides", x.hardest(true), 1);
        Check.due("17: the first place that is not the goal's", x.block(0, 0), 0);
        Check.due("17: the cell there", x.cell(0), 0);
        Check.due("17: the cell before", x.cell(5), NONE);
        SlidingBlocks y = Start.with(MOST, 2, 5);
        Check.due("17: in 2000 states by slides", y.hardest(true), 4);
        int[] slides = {5, 9, 17};
        int[] steps = {13, 0, 12};
        for (int b = 0; b < 3; b++) {
            Check.due("17: the place of block " + b, y.block(b, 0), slides[b]);
        }
        Check.due("17: its distance", y.distance(true), 4);
        Check.due("17: in 2000 states by steps", y.hardest(false), 13);
        for (int b = 0; b < 3; b++) {
            Check.due("17: the place of block " + b + " by steps", y.block(b, 0), steps[b]);
        }
        Check.due("17: again it stays", y.hardest(false), 13);
        Check.due("17: block 0 stays", y.block(0, 0), 13);
    }

    /** Promise 17: "the record is 0 then. This is an act." */
    private static void hardestIsAnAct() {
        SlidingBlocks x = Start.with("a...", 0, 3);
        x.step(0, RIGHT);
        x.step(0, LEFT);
        Check.due("17: where it is the farthest", x.hardest(false), 3);
        Check.due("17: it stays", x.block(0, 0), 0);
        Check.due("17: no steps then", x.frame(4), 0);
        Check.due("17: no slides then", x.frame(5), 0);
        Check.due("17: the goal stays", x.frame(6), 0);
        Check.due("17: the goal's place stays", x.frame(7), 3);
        Check.due("17: an act that leaves the blocks", x.undo(), 4);
        Check.due("17: steps before", x.frame(4), 2);
        Check.due("17: slides before", x.frame(5), 1);
        SlidingBlocks all = Start.with("a", 0, 0);
        Check.due("17: the distance 0", all.hardest(true), 0);
        Check.due("17: an act that leaves all", all.undo(), 2);
        SlidingBlocks stays = Start.with("#a#b", 1, 3);
        Check.due("17: the distance 0 away from the place 0", stays.hardest(false), 0);
        Check.due("17: block 0 stays", stays.block(0, 0), 1);
        Check.due("17: block 1 stays", stays.block(1, 0), 3);
        SlidingBlocks first = Start.with("#.a#b", 1, 4);
        Check.due("17: the distance 0 of all states", first.hardest(true), 0);
        Check.due("17: the first of them", first.block(0, 0), 1);
    }

    /** Promise 17: "STATE if worst() would return an error or NONE". */
    private static void hardestRefused() {
        errorsBecomeState("17", (x, slides) -> x.hardest(slides));
    }

    /** Promise 18: "their sum divided by their number, both as floats". */
    private static void meanAsFloats() {
        Check.dueFloat("18: 2/3, no whole number", Start.with("a..", 0, 0).mean(true), 2f / 3f);
        Check.dueFloat("18: 15/6", Start.with("a.....", 0, 0).mean(false), 15f / 6f);
        Check.dueFloat("18: 5/6", Start.with("a.....", 0, 3).mean(true), 5f / 6f);
        Check.dueFloat("18: 0", Start.with("a", 0, 0).mean(false), 0f);
        Check.dueFloat("18: 0 in all states", Start.with("a#b..", 0, 0).mean(true), 0f);
        Check.dueFloat("18: 2000 by steps", Start.with(MOST, 2, 5).mean(false), 10219f / 2000f);
        Check.dueFloat("18: 2000 by slides", Start.with(MOST, 2, 5).mean(true), 2772f / 2000f);
        SlidingBlocks x = Start.with("a...", 0, 0);
        Check.dueFloat("18: 6/4", x.mean(false), 6f / 4f);
        x.goal(0, 1);
        Check.dueFloat("18: 4/4", x.mean(false), 4f / 4f);
        Check.dueFloat("18: 3/4", x.mean(true), 3f / 4f);
    }

    /** Promise 18: "-1 if worst() would return an error or NONE". */
    private static void meanRefused() {
        for (boolean slides : new boolean[] {false, true}) {
            Twin.refused("18: a new object", x -> { }, x -> x.mean(slides), -1);
            Twin.refused("18: no goal", setup("ab.", -1, 0), x -> x.mean(slides), -1);
            Twin.refused("18: 2001", setup(ONE_TOO_MANY, 0, 0), x -> x.mean(slides), -1);
            Twin.refused("18: never", setup(NEVER, 0, 3), x -> x.mean(slides), -1);
        }
    }

    /** Promise 19: "Returns the set, bit p for the place p". */
    private static void placesSet() {
        Check.due("19: the place 0 alone", Start.with("a").places(0), 1);
        Check.due("19: all 24", Start.with("....../.a..../....../......").places(0), (1 << 24) - 1);
        Check.due("19: the place 23 alone", Start.with("######/######/######/#####a").places(0), 1 << 23);
        Check.due("19: not over a wall", Start.with("a.#.").places(0), 3);
        Check.due("19: not past another block", Start.with("ab...").places(1), 2 | 4 | 8 | 16);
        Check.due("19: corners only", Start.with("aa./aa.").places(0), 3);
        Check.due("19: where another block can leave", Start.with("ab/..").places(0), 15);
        Check.due("19: the seventh block", Start.with("abcdef/######/.....g").places(6), 63 << 12);
        Check.due("19: one that cannot move", Start.with("abcdef/######/.....g").places(5), 1 << 5);
        SlidingBlocks x = Start.with("a...");
        x.slide(0, 2);
        Check.due("19: from another place", x.places(0), 15);
        int[] most = {241326, 7964551, 16498607};
        for (int b = 0; b < most.length; b++) {
            Check.due("19: block " + b + " in 2000 states", Start.with(MOST).places(b), most[b]);
        }
    }

    /** Promise 19: "BAD if there is no such block; FULL if the states are too many". */
    private static void placesRefused() {
        Twin.refused("19: block -1", setup("ab.", 0, 0), x -> x.places(-1), BAD);
        Twin.refused("19: block 2", setup("ab.", 0, 0), x -> x.places(2), BAD);
        Twin.refused("19: no block at all", setup("...", -1, 0), x -> x.places(0), BAD);
        Twin.refused("19: 2001", setup(ONE_TOO_MANY, -1, 0), x -> x.places(0), FULL);
        Twin.refused("19: the last block of 2001", setup(ONE_TOO_MANY, -1, 0), x -> x.places(4), FULL);
        Twin.refused("19: BAD before FULL", setup(ONE_TOO_MANY, -1, 0), x -> x.places(5), BAD);
        for (int n : FAR_OFF) {
            Check.due("19: block " + n, Start.with("ab.").places(n), BAD);
        }
    }

    /** Promise 20: "the distance as it would be without a block (its cells being free)". */
    private static void withoutABlock() {
        SlidingBlocks x = Start.with("ab.c", 0, 2);
        Check.due("20: never with it", x.distance(false), NONE);
        Check.due("20: over its cells by steps", x.without(1, false), 2);
        Check.due("20: over its cells by a slide", x.without(1, true), 1);
        Check.due("20: another one in the way stays", x.without(2, false), 4);
        x.goal(0, 1);
        Check.due("20: to its very cell", x.without(1, true), 1);
        Check.due("20: it can make way", x.distance(true), 2);
        x.goal(0, 3);
        Check.due("20: beyond the next one", x.without(1, true), NONE);
        x.goal(0, 0);
        Check.due("20: solved without it", x.without(1, false), 0);
        SlidingBlocks wide = Start.with("abb/.bb/...", 0, 2);
        Check.due("20: with the wide one", wide.distance(false) > 2 ? 1 : 0, 1);
        Check.due("20: all its cells are free", wide.without(1, false), 2);
        SlidingBlocks walls = Start.with("a#b", 0, 2);
        Check.due("20: walls stay", walls.without(1, true), NONE);
        Check.due("20: one that is not in the way", Start.with("a..b", 0, 2).without(1, false), 2);
    }

    /** Promise 20: the other blocks keep their numbers, whichever is left out. */
    private static void withoutKeepsTheNumbers() {
        SlidingBlocks first = Start.with("ba.../.....", 1, 0);
        Check.due("20: the first one left out", first.without(0, false), 1);
        SlidingBlocks middle = Start.with("abc./####", 2, 0);
        Check.due("20: with all never", middle.distance(false), NONE);
        Check.due("20: the first one left out of three", middle.without(0, false), NONE);
        Check.due("20: the middle one left out", middle.without(1, false), NONE);
        middle.goal(2, 1);
        Check.due("20: b can make no way for c", middle.distance(true), NONE);
        Check.due("20: without the first it can", middle.without(0, true), 2);
        Check.due("20: without the middle one it need not", middle.without(1, true), 1);
        SlidingBlocks last = Start.with("a#b#c#/.#d#e#/.#f###/g.####", 0, 18);
        Check.due("20: the last of seven is in the way", last.distance(false), 4);
        Check.due("20: the last of seven left out", last.without(6, false), 3);
        Check.due("20: one that is not in the way left out", last.without(5, false), 4);
    }

    /** Promise 20: from the present state and for the present goal, one block after another. */
    private static void withoutOfThePresentState() {
        SlidingBlocks x = Start.with("a..b.c", 0, 5);
        Check.due("20: b and c", x.without(1, true), NONE);
        x.goal(0, 4);
        Check.due("20: without b", x.without(1, false), 4);
        Check.due("20: without c", x.without(2, false), 6);
        Check.due("20: without b again", x.without(1, false), 4);
        x.step(0, RIGHT);
        Check.due("20: one step on, without b", x.without(1, false), 3);
        Check.due("20: one step on, without c", x.without(2, false), 5);
        x.undo();
        Check.due("20: undone, without b", x.without(1, false), 4);
        Start.read(x, "a..b.#");
        x.goal(0, 4);
        Check.due("20: another frame, without b", x.without(1, false), 4);
        Check.due("20: with b it is never", x.distance(false), NONE);
        x.goal(0, 3);
        Check.due("20: another goal, without b", x.without(1, false), 3);
        Check.due("20: with b", x.distance(false), 4);
    }

    /** Promise 20: "FULL if the states would be too many": those without the block. */
    private static void withoutTooMany() {
        SlidingBlocks x = Start.with(MOST_AND_Z, 3, 5);
        Check.due("20: too many with all", x.distance(true), FULL);
        Check.due("20: 2000 without it, by slides", x.without(0, true), 2);
        Check.due("20: 2000 without it, by steps", x.without(0, false), 6);
        Check.due("20: more without another", x.without(1, true), FULL);
        Twin.refused("20: 2001 without it", setup(ONE_TOO_MANY_AND_Z, 0, 0), x2 -> x2.without(4, true), FULL);
        Twin.refused("20: 2001 without it, by steps", setup(ONE_TOO_MANY_AND_Z, 0, 0), x2 -> x2.without(4, false), FULL);
        SlidingBlocks jam = Start.with("abc/def/ggg", 0, 1);
        Check.due("20: one state with all", jam.states(), 1);
        Check.due("20: too many without it", jam.without(6, true), FULL);
        Check.due("20: still one state with all", jam.states(), 1);
        Check.due("20: few without a small one", jam.without(1, true), 1);
        SlidingBlocks solved = Start.with("abc/def/ggg", 0, 0);
        Check.due("20: FULL though solved", solved.without(6, true), FULL);
    }

    /** Promise 20: "BAD if there is no such block; STATE if there is no goal, or it is that of the goal; FULL; NONE". */
    private static void withoutRefused() {
        for (boolean slides : new boolean[] {false, true}) {
            Twin.refused("20: block -1", setup("ab.", 0, 0), x -> x.without(-1, slides), BAD);
            Twin.refused("20: block 2", setup("ab.", 0, 0), x -> x.without(2, slides), BAD);
            Twin.refused("20: block NONE without a goal", setup("ab.", -1, 0), x -> x.without(NONE, slides), BAD);
            Twin.refused("20: BAD before STATE", setup("ab.", -1, 0), x -> x.without(2, slides), BAD);
            Twin.refused("20: no goal", setup("ab.", -1, 0), x -> x.without(1, slides), STATE);
            Twin.refused("20: no goal, too many", setup("abc/def/ggg", -1, 0), x -> x.without(6, slides), STATE);
            Twin.refused("20: that of the goal", setup("ab.", 1, 2), x -> x.without(1, slides), STATE);
            Twin.refused("20: that of the goal, too many", setup("abc/def/ggg", 6, 6), x -> x.without(6, slides), STATE);
            Twin.refused("20: never", setup("abc.", 0, 3), x -> x.without(1, slides), NONE);
            Twin.refused("20: BAD before FULL", setup(ONE_TOO_MANY, 0, 0), x -> x.without(5, slides), BAD);
        }
        for (int n : FAR_OFF) {
            Check.due("20: block " + n, Start.with("ab.", 0, 0).without(n, true), BAD);
        }
    }

    private static long fingerprintBy(SlidingBlocks x) {
        long sum = 199;
        for (int what = 0; what <= 8; what++) {
            sum = sum * 31 + x.frame(what);
        }
        for (int i = 0; i < x.frame(0) * x.frame(1); i++) {
            sum = sum * 31 + x.cell(i);
        }
        for (int b = 0; b < x.frame(2); b++) {
            for (int what = 0; what <= 6; what++) {
                sum = sum * 31 + x.block(b, what);
            }
        }
        sum = sum * 31 + x.states();
        sum = sum * 31 + x.distance(false);
        return sum * 31 + x.distance(true);
    }

    /** Promise 22: "for each of the following numbers, in this order". */
    private static void fingerprintNumbers() {
        long first = 199;
        for (int number : new int[] {2, 1, 1, 1, 1, 1, 0, 0, 0, NONE, 0, 1, 1, 1, 1, 8, 1, 0, 2, 1, 1}) {
            first = 31 * first + number;
        }
        SlidingBlocks x = Start.with("a.", 0, 0);
        x.step(0, RIGHT);
        Check.due("22: two cells, by hand", x.fingerprint(), first);
        String[] texts = {".", "a", "a.#b", "ab./...", "....#./#....b/..#..b/#ccd..", ONE_TOO_MANY, NEVER, "abcdef/.....g"};
        for (String text : texts) {
            SlidingBlocks y = Start.with(text);
            Check.due("22: without a goal " + text, y.fingerprint(), fingerprintBy(y));
            y.goal(0, 0);
            y.step(0, DOWN);
            y.step(0, RIGHT);
            Check.due("22: with a goal " + text, y.fingerprint(), fingerprintBy(y));
            Twin.unchanged("22: no act", z -> Start.read(z, text), z -> z.fingerprint());
        }
    }

    /** Promise 22: "in long arithmetic with overflow": of the largest frame with the most blocks. */
    private static void fingerprintOverflow() {
        SlidingBlocks x = Start.with("abcdef/g...../....../......", 6, 23);
        Check.due("22: 24 cells and 7 blocks", x.fingerprint(), fingerprintBy(x));
        java.math.BigInteger sum = java.math.BigInteger.valueOf(199);
        SlidingBlocks y = Start.with("a.....");
        int[] numbers = {6, 1, 1, 5, 0, 0, NONE, NONE, 0, 0, NONE, NONE, NONE, NONE, NONE, 0, 1, 1, 1, 2, 5, 0, 6,
            STATE, STATE};
        for (int number : numbers) {
            sum = sum.multiply(java.math.BigInteger.valueOf(31)).add(java.math.BigInteger.valueOf(number));
        }
        Check.due("22: the lowest 64 bits are left", y.fingerprint(), sum.longValue());
        Check.due("22: there were more", sum.bitLength() > 64 ? 1 : 0, 1);
    }

    /** HISTORY: only what is described as an act is one; what is searched changes nothing. */
    private static void searchesAreNoActs() {
        Consumer<SlidingBlocks> setup = x -> {
            Start.read(x, "a.b/...");
            x.goal(0, 2);
            x.step(0, RIGHT);
            Start.type(x, "ab");
        };
        for (boolean slides : new boolean[] {false, true}) {
            Twin.unchanged("13: no act", setup, x -> x.distance(slides));
            Twin.unchanged("14: no act", setup, x -> x.hint(slides));
            Twin.unchanged("16: no act", setup, x -> x.worst(slides));
            Twin.unchanged("18: no act", setup, x -> x.mean(slides));
            Twin.unchanged("20: no act", setup, x -> x.without(1, slides));
        }
        Twin.unchanged("5: no act", setup, x -> x.frame(3));
        Twin.unchanged("6: no act", setup, x -> x.cell(3));
        Twin.unchanged("7: no act", setup, x -> x.block(1, 5));
        Twin.unchanged("11: no act", setup, x -> x.states());
        Twin.unchanged("12: no act", setup, x -> x.solved());
        Twin.unchanged("19: no act", setup, x -> x.places(1));
        Twin.unchanged("22: no act", setup, x -> x.fingerprint());
    }
}
