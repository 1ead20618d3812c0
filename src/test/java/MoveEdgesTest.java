import java.util.function.Consumer;

/**
 * The boundary cases that the document names for what is moved: MOVES, the RECORD, GOAL and the
 * promises 8 to 10. A method holds one sentence, which stands before it; each story begins with the
 * part of the document or the number of the promise.
 */
public final class MoveEdgesTest {
    private static final int BAD = SlidingBlocks.BAD;
    private static final int STATE = SlidingBlocks.STATE;
    private static final int NONE = SlidingBlocks.NONE;
    private static final int UP = 0;
    private static final int RIGHT = 1;
    private static final int DOWN = 2;
    private static final int LEFT = 3;
    private static final int[] FAR_OFF = {Integer.MIN_VALUE, Integer.MIN_VALUE + 1, -1000, -32, 32, Integer.MAX_VALUE};

    private MoveEdgesTest() {
    }

    public static void main(String[] args) {
        directions();
        atTheSides();
        noWayRoundTheSides();
        allCellsStayInside();
        cellsThatAreTaken();
        cellsOfItsOwn();
        cellsLeftByOthers();
        stepAnswersThePlace();
        stepRefused();
        slideOfOneStep();
        slideRoundCorners();
        slideToAnotherPlace();
        slideOnlyWhereStepsLead();
        leastStepsOfASlide();
        slideRefused();
        slideCountsOneSlide();
        slideCountsLeastSteps();
        stepCountsOneStep();
        stepAfterTheSameBlock();
        stepAfterAnotherBlock();
        sinceTheFrameWasRead();
        sinceHardest();
        followCountsAsItsMove();
        whatIsNoMove();
        latestMoveAfterUndo();
        noGoalAtFirst();
        noGoalWhenRead();
        goalAtTheSides();
        goalOnAnyCell();
        goalOfTheGreatestBlock();
        goalSolved();
        goalReplaced();
        goalRefused();
        Check.end();
    }

    private static void record(String story, SlidingBlocks x, int steps, int slides) {
        Check.due(story + ", steps", x.frame(4), steps);
        Check.due(story + ", slides", x.frame(5), slides);
    }

    /** MOVES: "in the direction 0 up, 1 right, 2 down, 3 left". */
    private static void directions() {
        int[] to = {1, 5, 7, 3};
        for (int direction = 0; direction < 4; direction++) {
            SlidingBlocks x = Start.with(".../.a./...");
            Check.due("MOVES: direction " + direction, x.step(0, direction), to[direction]);
            Check.due("MOVES: its place", x.block(0, 0), to[direction]);
            Check.due("MOVES: its cell", x.cell(to[direction]), 0);
            Check.due("MOVES: the cell before", x.cell(4), NONE);
        }
    }

    /** MOVES: a step is possible "if all its cells stay in the frame". */
    private static void atTheSides() {
        int[] corners = {0, 3, 8, 11};
        int[] possible = {1 << RIGHT | 1 << DOWN, 1 << DOWN | 1 << LEFT, 1 << UP | 1 << RIGHT, 1 << UP | 1 << LEFT};
        for (int i = 0; i < corners.length; i++) {
            for (int direction = 0; direction < 4; direction++) {
                int corner = corners[i];
                int d = direction;
                SlidingBlocks x = Start.with("a.../..../....");
                x.slide(0, corner);
                String story = "MOVES: from the corner " + corner + " in the direction " + d;
                if ((possible[i] >> d & 1) != 0) {
                    Check.due(story, x.step(0, d) >= 0 ? 1 : 0, 1);
                } else {
                    Twin.refused(story, y -> {
                        Start.read(y, "a.../..../....");
                        y.slide(0, corner);
                    }, y -> y.step(0, d), STATE);
                }
            }
        }
    }

    /** MOVES: what leaves a row at its end does not come into the next one, whose index is the next. */
    private static void noWayRoundTheSides() {
        Check.due("MOVES: right, behind the end of the row", Start.with("..a/...").step(0, RIGHT), STATE);
        Check.due("MOVES: left, before the start of the row", Start.with(".../a..").step(0, LEFT), STATE);
        Check.due("MOVES: two cells, right", Start.with(".aa/...").step(0, RIGHT), STATE);
        Check.due("MOVES: two cells, left", Start.with(".../aa.").step(0, LEFT), STATE);
        Check.due("MOVES: up, before the first row", Start.with(".a./...").step(0, UP), STATE);
        Check.due("MOVES: down, behind the last row", Start.with(".../.a.").step(0, DOWN), STATE);
        Check.due("MOVES: a row of one cell, right", Start.with("a/.").step(0, RIGHT), STATE);
        Check.due("MOVES: a row of one cell, left", Start.with("./a").step(0, LEFT), STATE);
        Check.due("MOVES: a row of one cell, down", Start.with("a/.").step(0, DOWN), 1);
        Check.due("MOVES: one row, down", Start.with("a.").step(0, DOWN), STATE);
        Check.due("MOVES: no slide round the left side", Start.with("##./a##/.##").slide(0, 2), STATE);
        Check.due("MOVES: shut in at the right side", Start.with(".#a/.##").slide(0, 3), STATE);
        SlidingBlocks last = Start.with("....../....../....../.....a");
        Check.due("MOVES: behind the last cell, right", last.step(0, RIGHT), STATE);
        Check.due("MOVES: behind the last cell, down", last.step(0, DOWN), STATE);
        Check.due("MOVES: left of the last cell", last.step(0, LEFT), 22);
    }

    /** MOVES: "all its cells stay in the frame", also when the corner of its rectangle would. */
    private static void allCellsStayInside() {
        SlidingBlocks x = Start.with(".a./aa./...");
        Check.due("MOVES: one to the right is inside", x.step(0, RIGHT), 1);
        Check.due("MOVES: two are not", x.step(0, RIGHT), STATE);
        Check.due("MOVES: one down is inside", x.step(0, DOWN), 4);
        Check.due("MOVES: two are not", x.step(0, DOWN), STATE);
        Check.due("MOVES: back up", x.step(0, UP), 1);
        Check.due("MOVES: above is outside", x.step(0, UP), STATE);
        Check.due("MOVES: back left", x.step(0, LEFT), 0);
        Check.due("MOVES: left is outside", x.step(0, LEFT), STATE);
        SlidingBlocks cross = Start.with(".a./aaa/.a.");
        Check.due("MOVES: as wide and high as the frame", cross.block(0, 4), 0);
    }

    /** MOVES: its cells must "come to cells that are free"; one that is not is enough against it. */
    private static void cellsThatAreTaken() {
        Check.due("MOVES: free below", Start.with("aa./a../...").step(0, DOWN), 3);
        Check.due("MOVES: a wall below one cell", Start.with("aa./a../#..").step(0, DOWN), STATE);
        Check.due("MOVES: a wall below the other", Start.with("aa./a#./...").step(0, DOWN), STATE);
        Check.due("MOVES: a wall beside them", Start.with("aa./a../.#.").step(0, DOWN), 3);
        Check.due("MOVES: a block below one cell", Start.with("aa./a../b..").step(0, DOWN), STATE);
        Check.due("MOVES: a block below the other", Start.with("aa./ab./...").step(0, DOWN), STATE);
        Check.due("MOVES: a block beside them", Start.with("aa./a../.b.").step(0, DOWN), 3);
        Check.due("MOVES: a wall at the right", Start.with("aa#/a../...").step(0, RIGHT), STATE);
        Check.due("MOVES: a block at the right of the lower", Start.with("aa./ab./...").step(0, RIGHT), STATE);
        Check.due("MOVES: a wall at the left", Start.with("#.a/..a").step(0, LEFT), 1);
        Check.due("MOVES: a wall at the left of one", Start.with(".#a/..a").step(0, LEFT), STATE);
        Check.due("MOVES: a wall above one", Start.with("#../aa.").step(0, UP), STATE);
        Check.due("MOVES: a block above the other", Start.with(".b./aa.").step(1, UP), STATE);
        Check.due("MOVES: nothing is pushed", Start.with("ab./...").step(0, RIGHT), STATE);
    }

    /** MOVES: its cells may come to cells that are "its own". */
    private static void cellsOfItsOwn() {
        SlidingBlocks x = Start.with("aaaaa./......");
        Check.due("MOVES: along its own cells, right", x.step(0, RIGHT), 1);
        Check.due("MOVES: along its own cells, left", x.step(0, LEFT), 0);
        SlidingBlocks y = Start.with("aa/aa/..");
        Check.due("MOVES: along its own cells, down", y.step(0, DOWN), 2);
        Check.due("MOVES: along its own cells, up", y.step(0, UP), 0);
    }

    /** MOVES: a block within another one's rectangle is in the way only with its cells. */
    private static void cellsLeftByOthers() {
        SlidingBlocks x = Start.with("aba/aaa/...");
        Check.due("MOVES: shut in", x.step(1, DOWN), STATE);
        Check.due("MOVES: the one around leaves", x.step(0, DOWN), 3);
        Check.due("MOVES: the other stays", x.cell(1), 1);
        Check.due("MOVES: into the hollow", x.step(1, DOWN), 4);
        Check.due("MOVES: the one around cannot come back", x.step(0, UP), STATE);
        Check.due("MOVES: the other can leave by the open side", x.block(1, 4), 1 << UP);
    }

    /** Promise 8: "Returns its place then". */
    private static void stepAnswersThePlace() {
        SlidingBlocks x = Start.with(".a/..");
        Check.due("8: the place 0", x.step(0, LEFT), 0);
        SlidingBlocks y = Start.with("....../....../....../....a.");
        Check.due("8: the place 23", y.step(0, RIGHT), 23);
        SlidingBlocks corner = Start.with("..a/.aa");
        Check.due("8: the corner, not a cell", corner.step(0, LEFT), 0);
        Check.due("8: which is free", corner.cell(0), NONE);
    }

    /** Promise 8: "BAD if there is no such block, or direction is not in its range; STATE if the step is not possible". */
    private static void stepRefused() {
        Consumer<SlidingBlocks> setup = x -> {
            Start.read(x, "a.b/...");
            x.goal(0, 5);
            x.step(0, RIGHT);
            Start.type(x, "ab");
        };
        Twin.refused("8: block -1", setup, x -> x.step(-1, DOWN), BAD);
        Twin.refused("8: block 2", setup, x -> x.step(2, DOWN), BAD);
        Twin.refused("8: direction -1", setup, x -> x.step(0, -1), BAD);
        Twin.refused("8: direction 4", setup, x -> x.step(0, 4), BAD);
        Twin.refused("8: neither", setup, x -> x.step(2, 4), BAD);
        Twin.refused("8: BAD before STATE", setup, x -> x.step(2, UP), BAD);
        Twin.refused("8: up", setup, x -> x.step(0, UP), STATE);
        Twin.refused("8: to another block", setup, x -> x.step(0, RIGHT), STATE);
        for (int n : FAR_OFF) {
            Check.due("8: block " + n, Start.with("a.").step(n, RIGHT), BAD);
            Check.due("8: direction " + n, Start.with("a.").step(0, n), BAD);
        }
        for (int direction = 0; direction < 4; direction++) {
            Check.due("8: the last block", Start.with("b../.b./..b").step(0, direction), BAD);
            Check.due("8: no block at all", Start.with("...").step(0, direction), BAD);
        }
    }

    /** MOVES: "A SLIDE moves a block by one or more steps": by one. */
    private static void slideOfOneStep() {
        int[] places = {1, 5, 7, 3};
        for (int place : places) {
            SlidingBlocks x = Start.with(".../.a./...");
            Check.due("9: to the place " + place, x.slide(0, place), 1);
            Check.due("9: it is there", x.block(0, 0), place);
            record("RECORD: a slide of one step", x, 1, 1);
        }
    }

    /** MOVES: "one after the other": not in a line alone. */
    private static void slideRoundCorners() {
        SlidingBlocks x = Start.with("a##/..#/#../##.");
        Check.due("9: down the stairs", x.slide(0, 11), 5);
        Check.due("9: it is there", x.block(0, 0), 11);
        Check.due("9: its cell", x.cell(11), 0);
        Check.due("9: its cell before", x.cell(0), NONE);
        Check.due("9: and up again", x.slide(0, 0), 5);
        SlidingBlocks two = Start.with("aa./#../...");
        Check.due("9: a wide one round a corner", two.slide(0, 6), 4);
    }

    /** MOVES: "to another place"; promise 9: STATE "also to the place where the block is". */
    private static void slideToAnotherPlace() {
        Consumer<SlidingBlocks> setup = x -> {
            Start.read(x, "aa./...");
            x.step(0, RIGHT);
        };
        Twin.refused("9: where it is", setup, x -> x.slide(0, 1), STATE);
        Twin.refused("9: where it is, shut in", x -> Start.read(x, "a"), x -> x.slide(0, 0), STATE);
        Check.due("9: another place", Start.with("aa./...").slide(0, 1), 1);
    }

    /** MOVES: each of the steps must be possible. */
    private static void slideOnlyWhereStepsLead() {
        Twin.refused("9: behind another block", x -> Start.read(x, "ab."), x -> x.slide(0, 2), STATE);
        Twin.refused("9: on another block", x -> Start.read(x, "ab."), x -> x.slide(0, 1), STATE);
        Twin.refused("9: on a wall", x -> Start.read(x, "a.#"), x -> x.slide(0, 2), STATE);
        Twin.refused("9: behind a wall", x -> Start.read(x, "a#."), x -> x.slide(0, 2), STATE);
        Twin.refused("9: beyond the right side", x -> Start.read(x, "aa."), x -> x.slide(0, 2), STATE);
        Twin.refused("9: beyond the lower side", x -> Start.read(x, "a/a/."), x -> x.slide(0, 2), STATE);
        Twin.refused("9: a gap too narrow", x -> Start.read(x, "aa./.##/..."), x -> x.slide(0, 6), STATE);
        Twin.refused("9: with room but no way", x -> Start.read(x, "aa.#../...#.."), x -> x.slide(0, 4), STATE);
        Check.due("9: a gap as wide as it is", Start.with("aa./..#/...").slide(0, 6), 2);
    }

    /** Promise 9: "Returns the least number of steps by which it can be made". */
    private static void leastStepsOfASlide() {
        int[] least = {0, 1, 2, 3, 1, NONE, NONE, 4, 2, 3, 4, 5};
        for (int place = 1; place < least.length; place++) {
            SlidingBlocks x = Start.with("a.../.##./....");
            Check.due("9: round the walls to " + place, x.slide(0, place), least[place] == NONE ? STATE : least[place]);
        }
        SlidingBlocks y = Start.with("a#..../.#.##./.#.#../...#.#");
        Check.due("9: the only way is long", y.slide(0, 22), 15);
        Check.due("9: and long again", y.slide(0, 0), 15);
        SlidingBlocks far = Start.with("a...../....../....../......");
        Check.due("9: over the frame", far.slide(0, 23), 8);
    }

    /** Promise 9: "BAD if there is no such block, or place is no index of a cell". */
    private static void slideRefused() {
        Consumer<SlidingBlocks> setup = x -> {
            Start.read(x, "a.b/...");
            x.goal(0, 5);
            x.slide(0, 4);
            Start.type(x, "ab");
        };
        Twin.refused("9: block -1", setup, x -> x.slide(-1, 3), BAD);
        Twin.refused("9: block 2", setup, x -> x.slide(2, 3), BAD);
        Twin.refused("9: place -1", setup, x -> x.slide(0, -1), BAD);
        Twin.refused("9: place 6", setup, x -> x.slide(0, 6), BAD);
        Twin.refused("9: neither", setup, x -> x.slide(2, 6), BAD);
        Twin.refused("9: BAD before STATE", setup, x -> x.slide(2, 4), BAD);
        Check.due("9: the last cell", Start.with("a.b/...").slide(0, 5), 3);
        Check.due("9: the first cell", Start.with(".a").slide(0, 0), 1);
        SlidingBlocks big = Start.with("a...../....../....../......");
        Check.due("9: the cell 24", big.slide(0, 24), BAD);
        for (int n : FAR_OFF) {
            Check.due("9: block " + n, big.slide(n, 1), BAD);
            Check.due("9: place " + n, big.slide(0, n), BAD);
        }
    }

    /** RECORD: "a slide counts as one slide", whatever moved before it. */
    private static void slideCountsOneSlide() {
        SlidingBlocks x = Start.with("a.../b...");
        x.slide(0, 1);
        record("RECORD: the first move", x, 1, 1);
        x.slide(0, 2);
        record("RECORD: a slide of the same block", x, 2, 2);
        x.slide(1, 5);
        record("RECORD: a slide of another block", x, 3, 3);
        x.step(1, RIGHT);
        x.slide(1, 7);
        record("RECORD: a slide after a step of the same block", x, 5, 4);
        x.step(0, RIGHT);
        x.slide(1, 4);
        record("RECORD: a slide after a step of another block", x, 9, 6);
    }

    /** RECORD: a slide counts "as many steps as the least number of steps by which it can be made". */
    private static void slideCountsLeastSteps() {
        SlidingBlocks x = Start.with("a.../.##./....");
        x.slide(0, 7);
        record("RECORD: the shorter way", x, 4, 1);
        x.slide(0, 8);
        record("RECORD: the shorter way back", x, 8, 2);
        x.slide(0, 0);
        record("RECORD: and up", x, 10, 3);
    }

    /** RECORD: "a step counts as one step". */
    private static void stepCountsOneStep() {
        SlidingBlocks x = Start.with("aa./...");
        record("RECORD: nothing at first", x, 0, 0);
        x.step(0, RIGHT);
        record("RECORD: one", x, 1, 1);
        x.step(0, LEFT);
        record("RECORD: back is one more", x, 2, 1);
        x.step(0, UP);
        record("RECORD: a refused one is none", x, 2, 1);
        for (int i = 0; i < 30; i++) {
            x.step(0, i % 2 == 0 ? DOWN : UP);
        }
        record("RECORD: many more than are kept", x, 32, 1);
    }

    /** RECORD: a step counts "as one slide unless the latest move (a step or a slide) [..] was of the same block". */
    private static void stepAfterTheSameBlock() {
        SlidingBlocks x = Start.with("a.../b...");
        x.step(0, RIGHT);
        x.step(0, RIGHT);
        record("RECORD: a step after a step of the same block", x, 2, 1);
        x.slide(1, 6);
        x.step(1, RIGHT);
        record("RECORD: a step after a slide of the same block", x, 5, 2);
        x.step(1, LEFT);
        record("RECORD: and one more", x, 6, 2);
    }

    /** RECORD: a step counts as one slide after a move of another block. */
    private static void stepAfterAnotherBlock() {
        SlidingBlocks x = Start.with("a.../b...");
        x.step(0, RIGHT);
        x.step(1, RIGHT);
        record("RECORD: a step after a step of another block", x, 2, 2);
        x.step(0, RIGHT);
        record("RECORD: the latest move counts, not one before", x, 3, 3);
        x.slide(1, 7);
        x.step(0, LEFT);
        record("RECORD: a step after a slide of another block", x, 6, 5);
    }

    /** RECORD: "since the frame was read". */
    private static void sinceTheFrameWasRead() {
        SlidingBlocks x = Start.with("a.../b...");
        x.step(0, RIGHT);
        Start.read(x, "a.../b...");
        record("RECORD: 0 when read", x, 0, 0);
        x.step(0, RIGHT);
        record("RECORD: the first step since the frame was read", x, 1, 1);
        Start.read(x, "a.");
        x.slide(0, 1);
        record("RECORD: the first slide since the frame was read", x, 1, 1);
        Start.read(x, "a!");
        x.step(0, LEFT);
        record("RECORD: a text with a fault reads no frame", x, 2, 1);
    }

    /** RECORD: "or changed by hardest()". */
    private static void sinceHardest() {
        SlidingBlocks x = Start.with("a.../....", 0, 0);
        x.step(0, RIGHT);
        x.step(0, RIGHT);
        x.hardest(false);
        record("RECORD: 0 after hardest()", x, 0, 0);
        x.step(0, LEFT);
        record("RECORD: the first step since hardest()", x, 1, 1);
        x.step(0, LEFT);
        record("RECORD: the second one", x, 2, 1);
        x.hardest(true);
        x.slide(0, 4);
        Check.due("RECORD: a slide since hardest()", x.frame(5), 1);
        SlidingBlocks other = Start.with("a.#b", 1, 3);
        other.step(0, RIGHT);
        other.hardest(true);
        Check.due("RECORD: it was brought to the first place", other.block(0, 0), 0);
        other.step(0, RIGHT);
        record("RECORD: a step since hardest()", other, 1, 1);
        SlidingBlocks refused = Start.with("a.../....");
        refused.step(0, RIGHT);
        Check.due("RECORD: hardest() without a goal", refused.hardest(true), STATE);
        refused.step(0, RIGHT);
        record("RECORD: a refused hardest() changes nothing", refused, 2, 1);
    }

    /** Promise 15: "Makes the first move as hint() tells": a step or a slide, and counts as such. */
    private static void followCountsAsItsMove() {
        SlidingBlocks x = Start.with("a..../.....", 0, 4);
        x.follow(false);
        record("RECORD: follow(false) is a step", x, 1, 1);
        x.follow(false);
        record("RECORD: a second one of the same block", x, 2, 1);
        x.follow(true);
        record("RECORD: follow(true) is a slide of two steps", x, 4, 2);
        x.goal(0, 0);
        x.follow(false);
        record("RECORD: a step after that slide", x, 5, 2);
        SlidingBlocks two = Start.with("ab/..", 1, 0);
        two.step(1, DOWN);
        two.follow(false);
        Check.due("RECORD: follow(false) moved the other block", two.frame(5), 2);
        SlidingBlocks long1 = Start.with("a#./.#./...", 0, 2);
        long1.follow(true);
        record("RECORD: a slide round the wall", long1, 6, 1);
    }

    /** RECORD: "the latest move (a step or a slide)": nothing else comes between two steps. */
    private static void whatIsNoMove() {
        SlidingBlocks x = Start.with("a.../b...");
        x.step(0, RIGHT);
        x.goal(1, 5);
        x.goal(0, 3);
        x.step(1, DOWN);
        x.slide(1, 4);
        x.fingerprint();
        x.hint(true);
        x.without(1, false);
        Start.type(x, "a.");
        x.clear();
        x.step(0, RIGHT);
        record("RECORD: no move between", x, 2, 1);
    }

    /** HISTORY: "record with the block of the latest move" is what undo() brings back. */
    private static void latestMoveAfterUndo() {
        SlidingBlocks x = Start.with("a.../b...");
        x.step(0, RIGHT);
        x.step(1, RIGHT);
        x.undo();
        record("RECORD: as before the second step", x, 1, 1);
        x.step(0, RIGHT);
        record("RECORD: the latest move is of block 0 again", x, 2, 1);
        x.undo();
        x.undo();
        record("RECORD: as read", x, 0, 0);
        x.step(0, RIGHT);
        record("RECORD: no latest move is left", x, 1, 1);
        SlidingBlocks y = Start.with("a.../b...", 0, 3);
        y.step(0, RIGHT);
        y.hardest(false);
        y.undo();
        y.step(0, RIGHT);
        record("RECORD: the latest move before hardest()", y, 2, 1);
        Start.read(y, "a.");
        y.undo();
        y.step(0, LEFT);
        record("RECORD: the latest move before read()", y, 3, 1);
    }

    /** GOAL: "there is none (at first [..])". */
    private static void noGoalAtFirst() {
        SlidingBlocks x = new SlidingBlocks();
        Check.due("GOAL: no block at first", x.frame(6), NONE);
        Check.due("GOAL: no place at first", x.frame(7), NONE);
        Check.due("GOAL: not solved", x.frame(8), 0);
    }

    /** GOAL: "there is none ([..] when a frame is read)". */
    private static void noGoalWhenRead() {
        SlidingBlocks x = Start.with("a.", 0, 0);
        Check.due("GOAL: solved", x.frame(8), 1);
        Start.read(x, "a.");
        Check.due("GOAL: no block when read", x.frame(6), NONE);
        Check.due("GOAL: no place when read", x.frame(7), NONE);
        Check.due("GOAL: not solved when read", x.frame(8), 0);
        x.undo();
        Check.due("GOAL: undone", x.frame(8), 1);
        Start.read(x, "a.A");
        Check.due("GOAL: a fault leaves it", x.frame(6), 0);
    }

    /** Promise 10: "the index of a cell at which the rectangle around the block would be in the frame". */
    private static void goalAtTheSides() {
        String[] texts = {"aa../..../....", "a.../a.../....", ".a../aa../....", "a.../..../....", "aaa./a.a./...."};
        int[] wide = {2, 1, 2, 1, 3};
        int[] high = {1, 2, 2, 1, 2};
        for (int i = 0; i < texts.length; i++) {
            SlidingBlocks x = Start.with(texts[i]);
            for (int place = -1; place <= 12; place++) {
                int column = place % 4;
                int row = place / 4;
                boolean inside = place >= 0 && column + wide[i] <= 4 && row + high[i] <= 3;
                int due = !inside ? BAD : place == 0 ? 1 : 0;
                Check.due("10: place " + place + " of " + texts[i], x.goal(0, place), due);
            }
        }
        SlidingBlocks last = Start.with("a...../....../....../......");
        Check.due("10: the last cell", last.goal(0, 23), 0);
        Check.due("10: behind it", last.goal(0, 24), BAD);
    }

    /** Promise 10: a cell of any kind will do, also one that the block can never come to. */
    private static void goalOnAnyCell() {
        SlidingBlocks x = Start.with("ab#.");
        Check.due("10: on another block", x.goal(0, 1), 0);
        Check.due("10: on a wall", x.goal(0, 2), 0);
        Check.due("10: behind a wall", x.goal(0, 3), 0);
        Check.due("10: its place is kept", x.frame(7), 3);
        Check.due("10: where it is", x.goal(0, 0), 1);
    }

    /** Promise 10: a block as large as the frame has one place. */
    private static void goalOfTheGreatestBlock() {
        SlidingBlocks x = Start.with("aaa/a.a");
        Check.due("10: the only place", x.goal(0, 0), 1);
        for (int place = 1; place < 6; place++) {
            Check.due("10: place " + place, x.goal(0, place), BAD);
        }
    }

    /** GOAL: "The frame is SOLVED if there is a goal, and the block is at the place." */
    private static void goalSolved() {
        SlidingBlocks x = Start.with("ab./...");
        Check.due("GOAL: not yet", x.goal(1, 2), 0);
        Check.due("GOAL: not solved", x.frame(8), 0);
        x.step(1, RIGHT);
        Check.due("GOAL: solved by a step", x.frame(8), 1);
        x.step(1, DOWN);
        Check.due("GOAL: no longer", x.frame(8), 0);
        x.slide(0, 2);
        Check.due("GOAL: another block at the place", x.frame(8), 0);
        x.undo();
        x.undo();
        Check.due("GOAL: solved again", x.frame(8), 1);
        SlidingBlocks corner = Start.with("..a/.aa");
        Check.due("GOAL: by the corner of the rectangle", corner.goal(0, 1), 1);
        Check.due("GOAL: not by a cell", corner.goal(0, 0), 0);
    }

    /** Promise 10: "Sets the goal": the one before is gone, and the record stays. */
    private static void goalReplaced() {
        SlidingBlocks x = Start.with("ab./...", 0, 0);
        x.step(1, RIGHT);
        Check.due("10: another block", x.goal(1, 2), 1);
        Check.due("10: its block", x.frame(6), 1);
        Check.due("10: its place", x.frame(7), 2);
        Check.due("10: another place", x.goal(1, 5), 0);
        Check.due("10: not solved then", x.frame(8), 0);
        record("10: the record stays", x, 1, 1);
        x.step(1, DOWN);
        record("10: and the latest move", x, 2, 1);
    }

    /** Promise 10: "BAD if there is no such block, or place is not as described". */
    private static void goalRefused() {
        Consumer<SlidingBlocks> setup = x -> {
            Start.read(x, "aa./..b");
            x.goal(1, 5);
            x.step(0, RIGHT);
            Start.type(x, "ab");
        };
        Twin.refused("10: block -1", setup, x -> x.goal(-1, 0), BAD);
        Twin.refused("10: block 2", setup, x -> x.goal(2, 0), BAD);
        Twin.refused("10: block NONE", setup, x -> x.goal(NONE, NONE), BAD);
        Twin.refused("10: place -1", setup, x -> x.goal(0, -1), BAD);
        Twin.refused("10: place 6", setup, x -> x.goal(1, 6), BAD);
        Twin.refused("10: beyond the right side", setup, x -> x.goal(0, 2), BAD);
        Twin.refused("10: beyond it in the last row", setup, x -> x.goal(0, 5), BAD);
        Twin.refused("10: beyond the lower side", x -> Start.read(x, "a./a./.."), x -> x.goal(0, 4), BAD);
        for (int n : FAR_OFF) {
            Check.due("10: block " + n, Start.with("a.").goal(n, 0), BAD);
            Check.due("10: place " + n, Start.with("a.").goal(0, n), BAD);
        }
    }
}
