/** For each promise of the document: ordinary inputs, the edges that it names, and wrong inputs. */
public final class PromisesTest {
    private static final int BAD = SlidingBlocks.BAD;
    private static final int STATE = SlidingBlocks.STATE;
    private static final int FULL = SlidingBlocks.FULL;
    private static final int NONE = SlidingBlocks.NONE;

    /** Four single blocks around a wall of two cells; 840 states. */
    private static final String RING = "a..b/.##./c..d";
    /** Exactly 2000 states, 2001 (667 on one side of the walls, 3 on the other), and 2002. */
    private static final String MOST = "....#./#....b/..#..b/#ccd..";
    private static final String ONE_TOO_MANY = ".acc#h/.d.#../.d####/..bb..";
    private static final String TOO_MANY = ".a./.a./#.b/..#/c../...";

    private PromisesTest() {
    }

    public static void main(String[] args) {
        newObject();
        type();
        clear();
        read();
        readIsAnAct();
        frame();
        cell();
        block();
        blockShapes();
        step();
        stepRecord();
        slide();
        slideRecord();
        goal();
        states();
        solved();
        distance();
        hint();
        follow();
        worst();
        hardest();
        mean();
        places();
        without();
        undo();
        undoTen();
        fingerprint();
        Check.end();
    }

    private static void newObject() {
        SlidingBlocks x = new SlidingBlocks();
        int[] due = {1, 1, 0, 1, 0, 0, NONE, NONE, 0};
        for (int what = 0; what < due.length; what++) {
            Check.due("1: frame(" + what + ")", x.frame(what), due[what]);
        }
        Check.due("1: cell(0)", x.cell(0), NONE);
        Check.due("1: cell(1)", x.cell(1), BAD);
        Check.due("1: block(0, 0)", x.block(0, 0), BAD);
        Check.due("1: states()", x.states(), 1);
        Check.due("1: distance(true)", x.distance(true), STATE);
        Check.due("1: undo()", x.undo(), NONE);
        Check.due("1: clear()", x.clear(), 0);
        Check.due("1: goal(0, 0)", x.goal(0, 0), BAD);
    }

    private static void type() {
        SlidingBlocks x = new SlidingBlocks();
        Check.due("2: type(31)", x.type(31), BAD);
        Check.due("2: type(127)", x.type(127), BAD);
        Check.due("2: type(-1)", x.type(-1), BAD);
        Check.due("2: type(32)", x.type(32), 1);
        Check.due("2: type(126)", x.type(126), 2);
        for (int i = 3; i <= 40; i++) {
            Check.due("2: type('.')", x.type('.'), i);
        }
        Check.due("2: the 41st", x.type('.'), FULL);
        Check.due("2: BAD before FULL", x.type(Integer.MAX_VALUE), BAD);
        Check.due("2: nothing changed", x.clear(), 40);
    }

    private static void clear() {
        SlidingBlocks x = new SlidingBlocks();
        Start.type(x, "abc");
        Check.due("3: clear()", x.clear(), 3);
        Check.due("3: clear() again", x.clear(), 0);
        Check.due("3: type after clear", x.type('a'), 1);
        Check.due("3: no act", x.undo(), NONE);
        Check.due("3: undo leaves the buffer", x.clear(), 1);
    }

    private static void faultAt(String text, int place) {
        SlidingBlocks x = new SlidingBlocks();
        Start.type(x, text);
        Check.due("4: read() of " + text, x.read(), -100 - place);
        Check.due("4: no act with a fault", x.undo(), NONE);
        Check.due("4: the buffer stays", x.clear(), text.length());
    }

    private static void read() {
        faultAt("", 0);
        faultAt("/", 0);
        faultAt("ab/", 3);
        faultAt("ab//", 3);
        faultAt("ab/a", 4);
        faultAt("ab/a/", 4);
        faultAt("ab/abc", 5);
        faultAt("abcdefg", 6);
        faultAt(".......", 6);
        faultAt("ab ", 2);
        faultAt("aA", 1);
        faultAt("a`", 1);
        faultAt("a{", 1);
        faultAt("./././././././", 11);
        faultAt("....../....../....../....../", 28);
        faultAt("....../....../....../....../.", 28);
        faultAt("...../...../...../...../.....", 28);
        faultAt("abcd/efgh/", 8);
        faultAt("abcd/efgg/hhhh", 10);
        faultAt("a.a", 0);
        faultAt(".ab/.ba/...", 1);
        faultAt("aab/cbc/d.d", 2);
        faultAt("aab/ccb/d.d", 8);
        faultAt("bab/aaa/b..", 0);
        faultAt("./a/./a", 2);
        faultAt("ab/ba/", 6);
        faultAt("..a.../a.....", 2);
        faultAt(".....a/a.....", 5);
        wholeText("./././././.", 0);
        wholeText("a", 1);
        wholeText(".", 0);
        wholeText("#", 0);
        wholeText("zyxwvu/tttttt", 7);
        wholeText("a/a/a/b/c/.", 3);
        wholeText("....../....../....../......", 0);
        wholeText("aaa/a.a/aaa", 1);
        wholeText("aaa/aba/aaa", 2);
        wholeText("a.a/aaa", 1);
    }

    private static void wholeText(String text, int blocks) {
        SlidingBlocks x = new SlidingBlocks();
        Start.type(x, text);
        Check.due("4: read() of " + text, x.read(), blocks);
        Check.due("4: the buffer is empty", x.clear(), 0);
        Check.due("4: H of " + text, x.frame(1), text.chars().filter(c -> c == '/').count() + 1);
        Check.due("4: an act", x.undo(), 0);
    }

    private static void readIsAnAct() {
        SlidingBlocks x = Start.with("ba./...");
        x.goal(0, 3);
        x.step(0, 2);
        Check.due("4: blocks are numbered by their cells", x.cell(1), 1);
        Start.type(x, "a.");
        Check.due("4: read()", x.read(), 1);
        int[] due = {2, 1, 1, 1, 0, 0, NONE, NONE, 0};
        for (int what = 0; what < due.length; what++) {
            Check.due("4: frame(" + what + ") after read()", x.frame(what), due[what]);
        }
        Check.due("4: the latest move is forgotten", x.step(0, 1), 1);
        Check.due("4: so a step is a slide", x.frame(5), 1);
        x.undo();
        Check.due("4: undo() of read()", x.undo(), 3);
        Check.due("4: the frame before", x.frame(0), 3);
        Check.due("4: the goal before", x.frame(7), 3);
        Check.due("4: the record before", x.frame(4), 1);
        Check.due("4: the place before", x.block(0, 0), 3);
        Check.due("4: the states before", x.states(), 30);
    }

    private static void frame() {
        SlidingBlocks x = Start.with("aa#./.b../....");
        int[] due = {4, 3, 2, 8, 0, 0, NONE, NONE, 0};
        for (int what = 0; what < due.length; what++) {
            Check.due("5: frame(" + what + ")", x.frame(what), due[what]);
        }
        x.goal(1, 6);
        x.step(1, 1);
        int[] then = {4, 3, 2, 8, 1, 1, 1, 6, 1};
        for (int what = 0; what < then.length; what++) {
            Check.due("5: then frame(" + what + ")", x.frame(what), then[what]);
        }
        Check.due("5: frame(-1)", x.frame(-1), BAD);
        Check.due("5: frame(9)", x.frame(9), BAD);
        Check.due("5: frame(MIN)", x.frame(Integer.MIN_VALUE), BAD);
    }

    private static void cell() {
        SlidingBlocks x = Start.with("b#./bba");
        int[] due = {0, -10, NONE, 0, 0, 1};
        for (int i = 0; i < due.length; i++) {
            Check.due("6: cell(" + i + ")", x.cell(i), due[i]);
        }
        Check.due("6: cell(6)", x.cell(6), BAD);
        Check.due("6: cell(-1)", x.cell(-1), BAD);
        Check.due("6: cell(31)", x.cell(31), BAD);
        Check.due("6: cell(32)", x.cell(32), BAD);
        Check.due("6: cell(MIN)", x.cell(Integer.MIN_VALUE), BAD);
        Check.due("6: cell(MAX)", x.cell(Integer.MAX_VALUE), BAD);
    }

    private static void block() {
        SlidingBlocks x = Start.with(".a../aab./....");
        int[] a = {0, 3, 2, 2, 4, 1, 0};
        int[] b = {6, 1, 1, 1, 7, 7, 1};
        for (int what = 0; what < a.length; what++) {
            Check.due("7: block(0, " + what + ")", x.block(0, what), a[what]);
            Check.due("7: block(1, " + what + ")", x.block(1, what), b[what]);
        }
        Check.due("7: block(2, 0)", x.block(2, 0), BAD);
        Check.due("7: block(-1, 0)", x.block(-1, 0), BAD);
        Check.due("7: block(0, 7)", x.block(0, 7), BAD);
        Check.due("7: block(0, -1)", x.block(0, -1), BAD);
        Check.due("7: block(7, 9)", x.block(7, 9), BAD);
    }

    private static void blockShapes() {
        SlidingBlocks x = Start.with("aab/c.b/ddd/eef");
        int[] due = {0, 1, 2, 3, 0, 2};
        for (int b = 0; b < due.length; b++) {
            Check.due("7: block(" + b + ", 6)", x.block(b, 6), due[b]);
        }
        SlidingBlocks y = Start.with("aa.b/a.bb");
        Check.due("7: turned shapes differ", y.block(1, 6), 1);
        Check.due("7: a rectangle's corner may be free", y.block(1, 0), 2);
        SlidingBlocks z = Start.with("a.b/...");
        Check.due("7: directions at the left", z.block(0, 4), 6);
        Check.due("7: directions at the right", z.block(1, 4), 12);
        z.step(0, 2);
        z.step(1, 2);
        Check.due("7: directions below", z.block(0, 4), 3);
        Check.due("7: directions below at the right", z.block(1, 4), 9);
    }

    private static void step() {
        SlidingBlocks x = Start.with("a./.#/..");
        Check.due("8: right", x.step(0, 1), 1);
        Check.due("8: a wall below", x.step(0, 2), STATE);
        Check.due("8: out of the frame, up", x.step(0, 0), STATE);
        Check.due("8: out of the frame, right", x.step(0, 1), STATE);
        Check.due("8: left", x.step(0, 3), 0);
        Check.due("8: out of the frame, left", x.step(0, 3), STATE);
        Check.due("8: down", x.step(0, 2), 2);
        Check.due("8: down", x.step(0, 2), 4);
        Check.due("8: out of the frame, down", x.step(0, 2), STATE);
        Check.due("8: up", x.step(0, 0), 2);
        Check.due("8: no direction 4", x.step(0, 4), BAD);
        Check.due("8: no direction -1", x.step(0, -1), BAD);
        Check.due("8: no direction 33", x.step(0, 33), BAD);
        Check.due("8: no block 1", x.step(1, 0), BAD);
        Check.due("8: no block -1", x.step(-1, 0), BAD);
        Check.due("8: errors are no acts", x.undo(), 5);
        SlidingBlocks y = Start.with("aab./....");
        Check.due("8: another block", y.step(0, 1), STATE);
        Check.due("8: to its own cells", y.step(0, 2), 4);
        Check.due("8: and on", y.step(0, 1), 5);
    }

    private static void stepRecord() {
        SlidingBlocks x = Start.with("a.../b...");
        x.step(0, 1);
        x.step(0, 1);
        x.goal(0, 1);
        x.step(0, 1);
        Check.due("8: steps", x.frame(4), 3);
        Check.due("8: one slide, a goal between is no move", x.frame(5), 1);
        x.step(1, 1);
        x.step(0, 3);
        Check.due("8: steps", x.frame(4), 5);
        Check.due("8: slides of changing blocks", x.frame(5), 3);
        x.undo();
        x.step(1, 1);
        Check.due("8: undo() restores the latest move", x.frame(5), 2);
    }

    private static void slide() {
        SlidingBlocks x = Start.with("a#./.../.b.");
        Check.due("9: round the wall", x.slide(0, 2), 4);
        Check.due("9: the place", x.block(0, 0), 2);
        Check.due("9: to a wall", x.slide(0, 1), STATE);
        Check.due("9: to a block", x.slide(0, 7), STATE);
        Check.due("9: to itself", x.slide(0, 2), STATE);
        Check.due("9: no place 9", x.slide(0, 9), BAD);
        Check.due("9: no place -1", x.slide(0, -1), BAD);
        Check.due("9: no place 24", x.slide(0, 24), BAD);
        Check.due("9: no block 2", x.slide(2, 0), BAD);
        Check.due("9: no block -1", x.slide(-1, 0), BAD);
        Check.due("9: errors are no acts", x.undo(), 1);
        SlidingBlocks y = Start.with("aa./aa.");
        Check.due("9: the rectangle would be outside", y.slide(0, 2), STATE);
        Check.due("9: a cell, but outside", y.slide(0, 3), STATE);
        Check.due("9: inside", y.slide(0, 1), 1);
        SlidingBlocks z = Start.with("a#b/.#.");
        Check.due("9: shut off", z.slide(0, 2), STATE);
    }

    private static void slideRecord() {
        SlidingBlocks x = Start.with("a.../b...");
        x.slide(0, 3);
        x.slide(0, 1);
        Check.due("9: a slide counts always", x.frame(5), 2);
        Check.due("9: and its steps", x.frame(4), 5);
        x.step(0, 1);
        Check.due("9: a step after it does not", x.frame(5), 2);
        x.step(1, 1);
        x.slide(1, 7);
        Check.due("9: a slide after a step does", x.frame(5), 4);
        Check.due("9: the steps of all", x.frame(4), 9);
    }

    private static void goal() {
        SlidingBlocks x = Start.with("aa./a../..#");
        Check.due("10: at the place", x.goal(0, 0), 1);
        Check.due("10: elsewhere", x.goal(0, 1), 0);
        Check.due("10: beyond the right side", x.goal(0, 2), BAD);
        Check.due("10: over a wall is fine", x.goal(0, 4), 0);
        Check.due("10: beyond the lower side", x.goal(0, 6), BAD);
        Check.due("10: no cell 9", x.goal(0, 9), BAD);
        Check.due("10: no cell -1", x.goal(0, -1), BAD);
        Check.due("10: no block 1", x.goal(1, 0), BAD);
        Check.due("10: no block -9", x.goal(NONE, 0), BAD);
        Check.due("10: the goal stays", x.frame(7), 4);
        Check.due("10: only goals set are acts", x.undo(), 3);
        Check.due("10: the goal before", x.frame(7), 1);
        x.undo();
        x.undo();
        Check.due("10: no goal before", x.frame(6), NONE);
    }

    private static void states() {
        Check.due("11: a ring", Start.with(RING).states(), 840);
        Check.due("11: full", Start.with("ab/cd").states(), 1);
        Check.due("11: like blocks are told apart", Start.with("ab./...").states(), 30);
        Check.due("11: shut off", Start.with("ab../####").states(), 6);
        Check.due("11: 2000 are not too many", Start.with(MOST).states(), 2000);
        Check.due("11: 2001 are", Start.with(ONE_TOO_MANY).states(), FULL);
        Check.due("11: 2002 are", Start.with(TOO_MANY).states(), FULL);
        Check.due("11: many more are", Start.with("abcd../....../....../......").states(), FULL);
        SlidingBlocks x = Start.with(RING);
        x.slide(0, 2);
        Check.due("11: the same from another one", x.states(), 840);
        Start.type(x, "a.");
        x.read();
        Check.due("11: of the new frame", x.states(), 2);
        x.undo();
        Check.due("11: of the frame before", x.states(), 840);
    }

    private static void solved() {
        SlidingBlocks x = Start.with("ab./...");
        Check.due("12: no goal", x.solved(), STATE);
        x.goal(0, 5);
        Check.due("12: the other block anywhere else", x.solved(), 5);
        SlidingBlocks y = Start.with("a#./.#.");
        y.goal(0, 2);
        Check.due("12: none", y.solved(), 0);
        SlidingBlocks z = Start.with(TOO_MANY);
        Check.due("12: STATE before FULL", z.solved(), STATE);
        z.goal(0, 1);
        Check.due("12: too many", z.solved(), FULL);
    }

    private static void distance() {
        SlidingBlocks x = Start.with(RING);
        Check.due("13: no goal", x.distance(false), STATE);
        x.goal(0, 11);
        Check.due("13: steps", x.distance(false), 10);
        Check.due("13: slides", x.distance(true), 3);
        x.goal(0, 0);
        Check.due("13: solved", x.distance(true), 0);
        x.goal(1, 2);
        Check.due("13: another goal", x.distance(false), 1);
        x.slide(1, 1);
        Check.due("13: from the other side", x.distance(false), 1);
        SlidingBlocks y = Start.with("a#./.#.");
        y.goal(0, 2);
        Check.due("13: never", y.distance(true), NONE);
        SlidingBlocks z = Start.with(TOO_MANY);
        Check.due("13: STATE before FULL", z.distance(true), STATE);
        z.goal(0, 1);
        Check.due("13: FULL though solved", z.distance(true), FULL);
        SlidingBlocks round = Start.with("a.#/#../b#.");
        round.goal(0, 8);
        Check.due("13: round corners by one slide", round.distance(true), 1);
        Check.due("13: by four steps", round.distance(false), 4);
    }

    private static void hint() {
        SlidingBlocks x = Start.with(RING);
        Check.due("14: no goal", x.hint(false), STATE);
        x.goal(0, 11);
        Check.due("14: steps", x.hint(false), 1);
        Check.due("14: slides", x.hint(true), 309);
        SlidingBlocks way = Start.with(".../.a./...");
        way.goal(0, 0);
        Check.due("14: the smaller place of two", way.hint(false), 1);
        way.goal(0, 6);
        Check.due("14: left before down", way.hint(false), 3);
        way.goal(0, 8);
        Check.due("14: right before down", way.hint(false), 5);
        way.goal(0, 2);
        Check.due("14: up before right", way.hint(false), 1);
        Check.due("14: a slide goes all the way", way.hint(true), 2);
        way.goal(0, 4);
        Check.due("14: solved", way.hint(false), NONE);
        SlidingBlocks zero = Start.with(".a");
        zero.goal(0, 0);
        Check.due("14: block 0 to the place 0", zero.hint(true), 0);
        Check.due("15: follow() with the hint 0", zero.follow(true), 0);
        SlidingBlocks fixed = Start.with("a");
        fixed.goal(0, 0);
        Check.due("14: solved without another state", fixed.hint(true), NONE);
        SlidingBlocks two = Start.with("ab./...");
        two.goal(1, 0);
        Check.due("14: the smaller block of two", two.hint(false), 3);
        Check.due("14: the smallest place of a slide", two.hint(true), 2);
        SlidingBlocks never = Start.with("a#./.#.");
        never.goal(0, 2);
        Check.due("14: never", never.hint(true), NONE);
        SlidingBlocks many = Start.with(TOO_MANY);
        many.goal(0, 1);
        Check.due("14: FULL though solved", many.hint(true), FULL);
        Check.due("14: no act", many.undo(), 1);
    }

    private static void follow() {
        SlidingBlocks x = Start.with(RING);
        Check.due("15: no goal", x.follow(true), STATE);
        x.goal(0, 11);
        for (int left = 9; left >= 0; left--) {
            Check.due("15: follow(false)", x.follow(false), left);
            Check.due("15: steps", x.frame(4), 10 - left);
        }
        Check.due("15: solved", x.frame(8), 1);
        Check.due("15: no more", x.follow(false), STATE);
        Check.due("15: ten acts are kept", x.undo(), 9);
        SlidingBlocks y = Start.with(RING);
        y.goal(0, 11);
        Check.due("15: follow(true)", y.follow(true), 2);
        Check.due("15: as hint() told", y.block(3, 0), 9);
        Check.due("15: its steps", y.frame(4), 2);
        Check.due("15: one slide", y.frame(5), 1);
        Check.due("15: follow(true)", y.follow(true), 1);
        Check.due("15: follow(true)", y.follow(true), 0);
        Check.due("15: three slides", y.frame(5), 3);
        SlidingBlocks line = Start.with("a...");
        line.goal(0, 3);
        line.follow(false);
        line.follow(false);
        Check.due("15: steps of one block are one slide", line.frame(5), 1);
        line.follow(true);
        Check.due("15: but a slide counts", line.frame(5), 2);
        SlidingBlocks many = Start.with(TOO_MANY);
        many.goal(0, 0);
        Check.due("15: too many states", many.follow(true), STATE);
        Check.due("15: errors are no acts", many.undo(), 1);
    }

    private static void worst() {
        SlidingBlocks x = Start.with(RING);
        Check.due("16: no goal", x.worst(false), STATE);
        x.goal(0, 11);
        Check.due("16: steps", x.worst(false), 12);
        Check.due("16: slides", x.worst(true), 4);
        SlidingBlocks line = Start.with("a.....");
        line.goal(0, 2);
        Check.due("16: a line", line.worst(false), 3);
        Check.due("16: a line by slides", line.worst(true), 1);
        SlidingBlocks fixed = Start.with("a");
        fixed.goal(0, 0);
        Check.due("16: one state", fixed.worst(true), 0);
        SlidingBlocks never = Start.with("a#./.#.");
        never.goal(0, 2);
        Check.due("16: never", never.worst(true), NONE);
        SlidingBlocks many = Start.with(TOO_MANY);
        many.goal(0, 1);
        Check.due("16: too many", many.worst(false), FULL);
    }

    private static void hardest() {
        SlidingBlocks x = Start.with("..a...");
        Check.due("17: no goal", x.hardest(false), STATE);
        x.goal(0, 4);
        x.step(0, 1);
        Check.due("17: the greatest distance", x.hardest(false), 4);
        Check.due("17: the place", x.block(0, 0), 0);
        Check.due("17: steps", x.frame(4), 0);
        Check.due("17: slides", x.frame(5), 0);
        Check.due("17: the goal stays", x.frame(7), 4);
        x.step(0, 1);
        Check.due("17: the latest move is forgotten", x.frame(5), 1);
        x.undo();
        Check.due("17: an act", x.undo(), 3);
        Check.due("17: undone", x.block(0, 0), 3);
        Check.due("17: the record too", x.frame(4), 1);
        x.goal(0, 2);
        x.hardest(true);
        Check.due("17: the first one by slides", x.block(0, 0), 0);
        SlidingBlocks two = Start.with("ab../....");
        two.goal(0, 3);
        two.hardest(true);
        Check.due("17: block 0 first", two.block(0, 0), 0);
        Check.due("17: then block 1", two.block(1, 0), 3);
        SlidingBlocks fixed = Start.with("a");
        fixed.goal(0, 0);
        Check.due("17: solved in all states", fixed.hardest(true), 0);
        Check.due("17: an act, though nothing moved", fixed.undo(), 2);
        SlidingBlocks never = Start.with("a#./.#.");
        never.goal(0, 2);
        Check.due("17: never", never.hardest(true), STATE);
        SlidingBlocks many = Start.with(TOO_MANY);
        many.goal(0, 1);
        Check.due("17: too many", many.hardest(false), STATE);
        Check.due("17: errors are no acts", many.undo(), 1);
    }

    private static void mean() {
        SlidingBlocks x = Start.with("a.....");
        Check.dueFloat("18: no goal", x.mean(false), -1f);
        x.goal(0, 1);
        Check.dueFloat("18: steps", x.mean(false), 11f / 6f);
        Check.dueFloat("18: slides", x.mean(true), 5f / 6f);
        SlidingBlocks ring = Start.with(RING);
        ring.goal(0, 11);
        Check.dueFloat("18: a ring by steps", ring.mean(false), 3735f / 840f);
        Check.dueFloat("18: a ring by slides", ring.mean(true), 1572f / 840f);
        SlidingBlocks never = Start.with("a#./.#.");
        never.goal(0, 2);
        Check.dueFloat("18: never", never.mean(true), -1f);
        SlidingBlocks many = Start.with(TOO_MANY);
        many.goal(0, 1);
        Check.dueFloat("18: too many", many.mean(false), -1f);
        SlidingBlocks fixed = Start.with("a");
        fixed.goal(0, 0);
        Check.dueFloat("18: solved alone", fixed.mean(false), 0f);
    }

    private static void places() {
        SlidingBlocks x = Start.with("a.#b/..#.");
        Check.due("19: places(0)", x.places(0), 1 | 2 | 16 | 32);
        Check.due("19: places(1)", x.places(1), 8 | 128);
        Check.due("19: places(2)", x.places(2), BAD);
        Check.due("19: places(-1)", x.places(-1), BAD);
        SlidingBlocks wide = Start.with("aa.");
        Check.due("19: the corner's places", wide.places(0), 3);
        SlidingBlocks pair = Start.with("ab..");
        Check.due("19: behind another block", pair.places(1), 14);
        SlidingBlocks far = Start.with("a...../....../....../......");
        Check.due("19: all 24", far.places(0), (1 << 24) - 1);
        SlidingBlocks many = Start.with(TOO_MANY);
        Check.due("19: too many", many.places(0), FULL);
        Check.due("19: BAD before FULL", many.places(3), BAD);
    }

    private static void without() {
        SlidingBlocks x = Start.with("ab..c");
        Check.due("20: no goal", x.without(1, false), STATE);
        Check.due("20: BAD before STATE", x.without(3, false), BAD);
        x.goal(0, 2);
        Check.due("20: with all", x.distance(false), 4);
        Check.due("20: without b", x.without(1, false), 2);
        Check.due("20: without b by slides", x.without(1, true), 1);
        Check.due("20: without c", x.without(2, false), 4);
        Check.due("20: that of the goal", x.without(0, true), STATE);
        Check.due("20: no block -1", x.without(-1, true), BAD);
        x.goal(0, 3);
        Check.due("20: never with all", x.distance(true), NONE);
        Check.due("20: without b", x.without(1, true), 1);
        Check.due("20: without c it could", x.without(2, true), 2);
        x.goal(0, 4);
        Check.due("20: b is still in the way", x.without(2, true), NONE);
        Check.due("20: c is still in the way", x.without(1, true), NONE);
        Check.due("20: no act", x.undo(), 3);
        SlidingBlocks many = Start.with("abcd../....../....../......");
        many.goal(0, 23);
        Check.due("20: too many", many.without(1, true), FULL);
        SlidingBlocks fewer = Start.with(TOO_MANY);
        fewer.goal(0, 0);
        Check.due("20: too many with it", fewer.distance(false), FULL);
        Check.due("20: not without it", fewer.without(2, false), 1);
        SlidingBlocks more = Start.with("ab/##");
        more.goal(0, 1);
        Check.due("20: nothing can move", more.distance(true), NONE);
        Check.due("20: without the one in the way", more.without(1, true), 1);
    }

    private static void undo() {
        SlidingBlocks x = Start.with("a.b");
        x.goal(0, 1);
        x.slide(0, 1);
        Check.due("21: undo() of a slide", x.undo(), 2);
        Check.due("21: the place", x.block(0, 0), 0);
        Check.due("21: the record", x.frame(4), 0);
        Check.due("21: the goal stays", x.frame(6), 0);
        Check.due("21: not solved", x.frame(8), 0);
        Check.due("21: undo() of a goal", x.undo(), 1);
        Check.due("21: no goal", x.frame(6), NONE);
        x.type('a');
        Check.due("21: undo() of read()", x.undo(), 0);
        Check.due("21: the first frame", x.frame(0), 1);
        Check.due("21: no blocks", x.frame(2), 0);
        Check.due("21: none left", x.undo(), NONE);
        Check.due("21: the buffer stays", x.clear(), 1);
    }

    private static void undoTen() {
        SlidingBlocks x = Start.with("a.....");
        for (int i = 0; i < 4; i++) {
            x.step(0, 1);
        }
        for (int i = 0; i < 9; i++) {
            x.goal(0, i % 6);
        }
        x.goal(0, 5);
        for (int left = 9; left >= 0; left--) {
            Check.due("21: undo()", x.undo(), left);
        }
        Check.due("21: the oldest is dropped", x.undo(), NONE);
        Check.due("21: it stands after the steps", x.block(0, 0), 4);
        Check.due("21: before the goals", x.frame(6), NONE);
        x.step(0, 1);
        x.step(0, 3);
        Check.due("21: it goes on after that", x.undo(), 1);
        Check.due("21: with the right state", x.block(0, 0), 5);
    }

    private static void fingerprint() {
        long first = 199;
        for (int number : new int[] {1, 1, 0, 1, 0, 0, NONE, NONE, 0, NONE, 1, STATE, STATE}) {
            first = 31 * first + number;
        }
        Check.due("22: of a new object", new SlidingBlocks().fingerprint(), first);
        SlidingBlocks x = Start.with("a.#/..#");
        x.goal(0, 4);
        x.step(0, 1);
        long due = 199;
        int[] numbers = {3, 2, 1, 3, 1, 1, 0, 4, 0, NONE, 0, -10, NONE, NONE, -10,
            1, 1, 1, 1, 12, 3, 0, 4, 1, 1};
        for (int number : numbers) {
            due = 31 * due + number;
        }
        Check.due("22: of a small frame", x.fingerprint(), due);
        Check.due("22: it changes nothing", x.fingerprint(), due);
        Check.due("22: no act", x.undo(), 2);
    }
}
