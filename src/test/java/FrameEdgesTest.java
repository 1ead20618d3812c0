/**
 * The boundary cases that the document names for the frame and its text: FRAME, TEXTS and the
 * promises 1 to 7. A method holds one sentence, which stands before it; each story begins with the
 * part of the document or the number of the promise.
 */
public final class FrameEdgesTest {
    private static final int BAD = SlidingBlocks.BAD;
    private static final int FULL = SlidingBlocks.FULL;
    private static final int NONE = SlidingBlocks.NONE;
    private static final int STATE = SlidingBlocks.STATE;
    private static final int WALL = -10;
    private static final int[] FAR_OFF = {Integer.MIN_VALUE, Integer.MIN_VALUE + 1, -1000, -32, Integer.MAX_VALUE};

    private FrameEdgesTest() {
    }

    public static void main(String[] args) {
        sizes();
        indexOfCells();
        mostBlocks();
        numbersOfBlocks();
        shapesStay();
        placeOfABlock();
        bufferSize();
        bufferCodes();
        bufferAtFirst();
        everySign();
        rowLongerThanTheFirst();
        firstRowBeyondSix();
        slashInAShortRow();
        slashInAnEmptyRow();
        slashBehindTheSixthRow();
        moreCellsThan24();
        eighthBlock();
        endsTooEarly();
        firstFaultOfSeveral();
        connectedBySides();
        firstUnconnectedBlock();
        unconnectedAfterAllElse();
        newObject();
        clearCounts();
        readAnswersBlocks();
        readForgets();
        readAndTheBuffer();
        readOneAfterAnother();
        frameNumbers();
        frameOutside();
        cellsOutside();
        blockOutside();
        directionSets();
        otherPlaces();
        sameShapes();
        Check.end();
    }

    private static String rows(int w, int h) {
        String row = ".".repeat(w);
        return row + ("/" + row).repeat(h - 1);
    }

    /** A fault answers its place, leaves the buffer and is no act; the same before and after a frame was read. */
    private static void fault(String part, String text, int place) {
        String story = part + ": fault in \"" + text + "\"";
        Twin.refused(story, x -> Start.type(x, text), x -> x.read(), -100 - place);
        Twin.refused(story + " later", x -> {
            Start.read(x, "ab./...");
            x.goal(1, 5);
            x.step(0, 2);
            Start.type(x, text);
        }, x -> x.read(), -100 - place);
        SlidingBlocks y = new SlidingBlocks();
        Start.type(y, text);
        y.read();
        Check.due(story + ", the buffer stays", y.clear(), text.length());
    }

    private static void whole(String part, String text, int blocks) {
        SlidingBlocks x = new SlidingBlocks();
        Check.due(part + ": no fault in \"" + text + "\"", Start.read(x, text), blocks);
        Check.due(part + ": the blocks of \"" + text + "\"", x.frame(2), blocks);
    }

    /** FRAME: "The frame has a width W and a height H, 1 to 6 each, with at most 24 cells." */
    private static void sizes() {
        for (int w = 1; w <= 8; w++) {
            for (int h = 1; h <= 8; h++) {
                String text = rows(w, h);
                if (text.length() > 40) {
                    continue;
                }
                if (w > 6) {
                    fault("FRAME", text, 6);
                } else if (w * Math.min(h, 6) > 24) {
                    fault("FRAME", text, 28);
                } else if (h > 6) {
                    fault("FRAME", text, 6 * w + 5);
                } else {
                    size(text, w, h);
                }
            }
        }
    }

    private static void size(String text, int w, int h) {
        SlidingBlocks x = Start.with(text);
        String story = "FRAME: " + w + " by " + h;
        Check.due(story + ", W", x.frame(0), w);
        Check.due(story + ", H", x.frame(1), h);
        Check.due(story + ", free cells", x.frame(3), w * h);
        Check.due(story + ", cell before the first", x.cell(-1), BAD);
        Check.due(story + ", first cell", x.cell(0), NONE);
        Check.due(story + ", last cell", x.cell(w * h - 1), NONE);
        Check.due(story + ", cell behind the last", x.cell(w * h), BAD);
    }

    /** FRAME: "The cell at column x, row y (from 0, at the left and at the top) has the index y * W + x." */
    private static void indexOfCells() {
        SlidingBlocks x = Start.with("a....b/....../.#..../c....d");
        int[] corners = {0, 5, 18, 23};
        for (int b = 0; b < corners.length; b++) {
            Check.due("FRAME: a corner", x.cell(corners[b]), b);
            Check.due("FRAME: the block at a corner", x.block(b, 0), corners[b]);
        }
        Check.due("FRAME: column 1, row 2", x.cell(13), WALL);
        SlidingBlocks y = Start.with("a..b/..../..../#.../..../c..d");
        Check.due("FRAME: upright, column 3, row 0", y.cell(3), 1);
        Check.due("FRAME: upright, column 0, row 3", y.cell(12), WALL);
        Check.due("FRAME: upright, column 0, row 5", y.cell(20), 2);
        Check.due("FRAME: upright, column 3, row 5", y.cell(23), 3);
        Check.due("FRAME: upright, the block in the last row", y.block(3, 0), 23);
        Check.due("FRAME: one column, the block in the last row", Start.with("././././a/a").block(0, 0), 4);
        Check.due("FRAME: one row, the block in the last column", Start.with("....aa").block(0, 0), 4);
    }

    /** FRAME: "There are at most 7 blocks". */
    private static void mostBlocks() {
        whole("FRAME", "abcdef/g.....", 7);
        whole("FRAME", "abcdef/gggggg", 7);
        whole("FRAME", "....../abcdef/....../.....g", 7);
        fault("FRAME", "abcdef/gh....", 8);
        fault("FRAME", "......./", 6);
        SlidingBlocks x = Start.with("abcdef/.....g");
        Check.due("FRAME: the seventh block", x.block(6, 0), 11);
        Check.due("FRAME: no eighth one", x.block(7, 0), BAD);
        Check.due("FRAME: the seventh one moves", x.step(6, 3), 10);
        Check.due("FRAME: its cell", x.cell(10), 6);
    }

    /** FRAME: blocks are "numbered from 0 by the index of their first cell at the beginning (when they were read)". */
    private static void numbersOfBlocks() {
        SlidingBlocks x = Start.with("z.a/..m");
        Check.due("FRAME: the first cell, not the letter", x.cell(0), 0);
        Check.due("FRAME: the second block", x.cell(2), 1);
        Check.due("FRAME: the third block", x.cell(5), 2);
        x.slide(0, 4);
        Check.due("FRAME: the number stays behind another block", x.cell(4), 0);
        Check.due("FRAME: the other's number stays", x.cell(2), 1);
        SlidingBlocks y = Start.with("..b/abb");
        Check.due("FRAME: by the first cell, not by the place", y.block(0, 0), 1);
        Check.due("FRAME: the block with the smaller place", y.block(1, 0), 3);
        SlidingBlocks one = Start.with(".b./ab./a..");
        Check.due("FRAME: the upper one is 0", one.cell(1), 0);
        Check.due("FRAME: the lower one is 1", one.cell(3), 1);
    }

    /** FRAME: "A block keeps its shape." */
    private static void shapesStay() {
        SlidingBlocks x = Start.with(".a./aaa/.../...");
        x.step(0, 2);
        int[] down = {NONE, NONE, NONE, NONE, 0, NONE, 0, 0, 0, NONE, NONE, NONE};
        for (int i = 0; i < down.length; i++) {
            Check.due("FRAME: one down, cell " + i, x.cell(i), down[i]);
        }
        x.step(0, 2);
        Check.due("FRAME: two down, the tip", x.cell(7), 0);
        Check.due("FRAME: two down, beside the tip", x.cell(6), NONE);
        Check.due("FRAME: two down, the foot", x.cell(11), 0);
        int[] numbers = {6, 4, 3, 2, 1, 2, 0};
        for (int what = 0; what < numbers.length; what++) {
            Check.due("FRAME: two down, block(0, " + what + ")", x.block(0, what), numbers[what]);
        }
    }

    /** FRAME: the place is "the upper left corner of the smallest rectangle around it (a cell that need not belong to it)". */
    private static void placeOfABlock() {
        String[] texts = {".../..a/.aa", ".../.#a/.aa", ".../.ba/.aa", ".../.ab/.aa", ".../.aa/.aa", ".../..a/..a"};
        int[] blocks = {0, 0, 1, 0, 0, 0};
        int[] places = {4, 4, 4, 4, 4, 5};
        int[] corners = {NONE, WALL, 0, 0, 0, 0};
        for (int i = 0; i < texts.length; i++) {
            SlidingBlocks x = Start.with(texts[i]);
            Check.due("FRAME: the place in " + texts[i], x.block(blocks[i], 0), places[i]);
            Check.due("FRAME: the cell there in " + texts[i], x.cell(places[i]), corners[i]);
        }
        SlidingBlocks wide = Start.with("...a/aaaa");
        Check.due("FRAME: left of the first cell", wide.block(0, 0), 0);
        SlidingBlocks last = Start.with("....../....../....../.....a");
        Check.due("FRAME: the last cell", last.block(0, 0), 23);
    }

    /** TEXTS: "There is a buffer of at most 40 characters"; promise 2: "FULL if there are 40 characters". */
    private static void bufferSize() {
        SlidingBlocks x = new SlidingBlocks();
        for (int i = 1; i <= 40; i++) {
            Check.due("2: character " + i, x.type(i == 5 ? 'A' : '.'), i);
        }
        Check.due("2: character 41", x.type('.'), FULL);
        Check.due("2: character 41 again", x.type('a'), FULL);
        Check.due("2: what is full is kept as it is", x.read(), -104);
        Check.due("2: 40 were kept", x.clear(), 40);
        Check.due("2: room again", x.type('.'), 1);
        Twin.refused("2: FULL", y -> Start.type(y, "ab/.#".repeat(8)), y -> y.type('a'), FULL);
        Twin.refused("2: BAD before FULL", y -> Start.type(y, "ab/.#".repeat(8)), y -> y.type(127), BAD);
        Twin.refused("4: a full buffer", y -> Start.type(y, "....../".repeat(6)), y -> y.read(), -128);
    }

    /** TEXTS: "characters with codes from 32 to 126"; promise 2: "BAD if c is not in its range". */
    private static void bufferCodes() {
        SlidingBlocks x = new SlidingBlocks();
        Check.due("2: the lowest code", x.type(32), 1);
        Check.due("2: the highest code", x.type(126), 2);
        Check.due("2: within", x.type(47), 3);
        int[] outside = {31, 127, 0, -1, 128, 255, 256 + 'a', 65536 + 'a', 'a' - 256};
        for (int c : outside) {
            Twin.refused("2: code " + c, y -> Start.type(y, "a."), y -> y.type(c), BAD);
        }
        for (int c : FAR_OFF) {
            Twin.refused("2: code " + c, y -> Start.type(y, "a."), y -> y.type(c), BAD);
        }
    }

    /** TEXTS: the buffer is "initially empty". */
    private static void bufferAtFirst() {
        Check.due("TEXTS: nothing to clear", new SlidingBlocks().clear(), 0);
        Check.due("TEXTS: the first character", new SlidingBlocks().type('a'), 1);
        Check.due("TEXTS: the empty text", new SlidingBlocks().read(), -100);
        Twin.refused("TEXTS: the empty text", x -> { }, x -> x.read(), -100);
        Twin.refused("TEXTS: empty after a frame", x -> Start.read(x, "a.b"), x -> x.read(), -100);
    }

    /** TEXTS: '"." is a free cell, "#" a wall, a letter from "a" to "z" a cell of the block with this letter.' */
    private static void everySign() {
        for (int c = 32; c <= 126; c++) {
            boolean letter = c >= 97 && c <= 122;
            boolean cell = letter || c == 46 || c == 35;
            int blocks = letter ? 1 : 0;
            SlidingBlocks alone = new SlidingBlocks();
            alone.type(c);
            Check.due("TEXTS: alone, code " + c, alone.read(), cell ? blocks : -100);
            Check.due("TEXTS: the cell of code " + c, alone.cell(0), letter ? 0 : c == 35 ? WALL : NONE);
            SlidingBlocks second = new SlidingBlocks();
            second.type('.');
            second.type(c);
            Check.due("TEXTS: second, code " + c, second.read(), cell ? blocks : c == 47 ? -102 : -101);
            Check.due("TEXTS: the row with code " + c, second.frame(0), cell ? 2 : 1);
        }
        fault("TEXTS", "ab/c`", 4);
        fault("TEXTS", "ab/c{", 4);
        fault("TEXTS", "ab/cA", 4);
        fault("TEXTS", " a", 0);
    }

    /** TEXTS: "a cell of a row that would be longer than the first one". */
    private static void rowLongerThanTheFirst() {
        whole("TEXTS", "ab/cd/ef", 6);
        fault("TEXTS", "ab/cd/ef.", 8);
        fault("TEXTS", "ab/cd#/ef", 5);
        fault("TEXTS", "a/bc", 3);
        fault("TEXTS", "./..", 3);
        fault("TEXTS", "...../......", 11);
        whole("TEXTS", "....../......", 0);
    }

    /** TEXTS: a cell "of the first one beyond 6". */
    private static void firstRowBeyondSix() {
        whole("TEXTS", "......", 0);
        whole("TEXTS", "aaaaaa", 1);
        whole("TEXTS", "######", 0);
        fault("TEXTS", ".......", 6);
        fault("TEXTS", "aaaaaaa", 6);
        fault("TEXTS", "######./", 6);
        fault("TEXTS", "....... ", 6);
    }

    /** TEXTS: 'a "/" in a row that is shorter than the first one'. */
    private static void slashInAShortRow() {
        whole("TEXTS", "ab/ab/cd", 4);
        fault("TEXTS", "ab/a/cd", 4);
        fault("TEXTS", "ab/ab/c/", 7);
        fault("TEXTS", "....../...../......", 12);
        fault("TEXTS", ".../../.../", 6);
    }

    /** TEXTS: 'a "/" in a row that is [..] empty'. */
    private static void slashInAnEmptyRow() {
        fault("TEXTS", "/", 0);
        fault("TEXTS", "/a", 0);
        fault("TEXTS", "//", 0);
        fault("TEXTS", "a//a", 2);
        fault("TEXTS", "ab/cd//", 6);
        whole("TEXTS", "ab/cd", 4);
    }

    /** TEXTS: 'a "/" [..] behind the sixth row'. */
    private static void slashBehindTheSixthRow() {
        whole("TEXTS", "a/a/a/b/b/b", 2);
        fault("TEXTS", "a/a/a/b/b/b/", 11);
        fault("TEXTS", "././././././.", 11);
        whole("TEXTS", rows(4, 6), 0);
        fault("TEXTS", rows(4, 6) + "/", 29);
        fault("TEXTS", rows(3, 6) + "/...", 23);
        fault("TEXTS", rows(6, 4) + "/", 28);
    }

    /** TEXTS: "a cell by which there would be more than 24". */
    private static void moreCellsThan24() {
        whole("TEXTS", rows(6, 4), 0);
        whole("TEXTS", "aaaaaa/aaaaaa/aaaaaa/aaaaaa", 1);
        fault("TEXTS", rows(6, 4) + "/.", 28);
        fault("TEXTS", rows(6, 4) + "/a", 28);
        fault("TEXTS", rows(6, 4) + "/#.....", 28);
        fault("TEXTS", rows(5, 4) + "/....", 28);
        fault("TEXTS", rows(5, 4) + "/.....", 28);
        fault("TEXTS", rows(5, 5) + "/.....", 28);
        whole("TEXTS", rows(5, 4), 0);
    }

    /** TEXTS: "the first cell of an eighth block". */
    private static void eighthBlock() {
        whole("TEXTS", "abcdef/aggggf", 7);
        fault("TEXTS", "abcdef/g....h", 12);
        fault("TEXTS", "abcdef/gh....", 8);
        fault("TEXTS", "abcdef/gfedch", 12);
        fault("TEXTS", "a/b/c/d/e/f/g", 11);
        fault("TEXTS", "ab/cd/ef/gh", 10);
        whole("TEXTS", "ab/cd/ef/g.", 7);
        whole("TEXTS", "ab/cd/ef/gg", 7);
    }

    /** TEXTS: "or its length if it ends too early (in a row that is shorter than the first one, or empty)". */
    private static void endsTooEarly() {
        fault("TEXTS", "", 0);
        fault("TEXTS", "a/", 2);
        fault("TEXTS", "ab/", 3);
        fault("TEXTS", "ab/a", 4);
        whole("TEXTS", "ab/ab", 2);
        fault("TEXTS", "ab/cd/", 6);
        fault("TEXTS", "....../.....", 12);
        fault("TEXTS", "./././././", 10);
        whole("TEXTS", "./././././.", 0);
        fault("TEXTS", "..../..../..../..../..../...", 28);
    }

    /** TEXTS: "the index of the first character that cannot stand at its place". */
    private static void firstFaultOfSeveral() {
        fault("TEXTS", "ab/a/abc", 4);
        fault("TEXTS", "ab/abc/a", 5);
        fault("TEXTS", "A/", 0);
        fault("TEXTS", "aA/A", 1);
        fault("TEXTS", ".......A", 6);
        fault("TEXTS", "......A", 6);
        fault("TEXTS", "abcdef/gh/A", 8);
        fault("TEXTS", "abcdef/g/h", 8);
        fault("TEXTS", "/A", 0);
        fault("TEXTS", "..A", 2);
    }

    /** TEXTS: "The cells of a block must be connected by their sides." */
    private static void connectedBySides() {
        fault("TEXTS", "a./.a", 0);
        fault("TEXTS", ".a/a.", 1);
        fault("TEXTS", "a.a", 0);
        fault("TEXTS", "a/./a", 0);
        fault("TEXTS", "..a/a..", 2);
        fault("TEXTS", "a..../....a", 0);
        fault("TEXTS", "aa../..aa", 0);
        fault("TEXTS", "aab/bba", 0);
        fault("TEXTS", "aaa/.../aaa", 0);
        fault("TEXTS", ".....a/a.....", 5);
        String[] joined = {"a", "aa", "a/a", "aa/a.", ".a/aa", "a.a./aaa.", ".a.a/.aaa", "a.a/a.a/aaa", "a..a/a..a/aaaa",
            "aaa/..a/..a", "aaa/a.a/a.a", "aaa/a.a/aaa", "aaaaaa/#####a/aaaaaa/a#####", "aaaa/###a/aaaa/a###/aaaa/###a",
            "a#aa/a#.a/a#.a/a#.a/a#.a/aaaa", "a#aaa#/a#a#a#/a#a#a#/aaa#aa", "#a/#a/#a/#a/aa/a#"};
        for (String text : joined) {
            whole("TEXTS", text, 1);
        }
    }

    /** TEXTS: "the index of its first cell in the text, for the first such block". */
    private static void firstUnconnectedBlock() {
        fault("TEXTS", ".b.a/.a.b", 1);
        fault("TEXTS", "a.b/a../b.b", 2);
        fault("TEXTS", "aa/b./.b/cc", 3);
        fault("TEXTS", "./a/./a", 2);
        fault("TEXTS", "..../..../a.a.", 10);
        fault("TEXTS", "...../...../...../..a.a", 20);
        fault("TEXTS", "b..a/..ab/....", 0);
        fault("TEXTS", "abcdef/....../g.g...", 14);
    }

    /** TEXTS: the cells of a block count only "if there is none" of the other faults. */
    private static void unconnectedAfterAllElse() {
        fault("TEXTS", "a.a/", 4);
        fault("TEXTS", "a.a/a", 5);
        fault("TEXTS", "a.a/b/", 5);
        fault("TEXTS", "a.aA", 3);
        fault("TEXTS", "a.a/aaab", 7);
        whole("TEXTS", "a.a/aaa", 1);
    }

    /** Promise 1: "Creates a frame with one free cell, and without blocks and a goal." */
    private static void newObject() {
        SlidingBlocks x = new SlidingBlocks();
        int[] numbers = {1, 1, 0, 1, 0, 0, NONE, NONE, 0, BAD};
        for (int what = 0; what < numbers.length; what++) {
            Check.due("1: frame(" + what + ")", x.frame(what), numbers[what]);
        }
        Check.due("1: the free cell", x.cell(0), NONE);
        Check.due("1: no other cell", x.cell(1), BAD);
        Check.due("1: states()", x.states(), 1);
        Check.due("1: solved()", x.solved(), STATE);
        Check.due("1: hint()", x.hint(true), STATE);
        Check.due("1: follow()", x.follow(false), STATE);
        Check.due("1: worst()", x.worst(true), STATE);
        Check.due("1: hardest()", x.hardest(false), STATE);
        Check.dueFloat("1: mean()", x.mean(true), -1f);
        Check.due("1: step()", x.step(0, 0), BAD);
        Check.due("1: slide()", x.slide(0, 0), BAD);
        Check.due("1: goal()", x.goal(0, 0), BAD);
        Check.due("1: places()", x.places(0), BAD);
        Check.due("1: without()", x.without(0, true), BAD);
        Check.due("1: undo()", x.undo(), NONE);
        Twin.alike("1: as the text of one free cell", y -> { }, y -> Start.read(y, "."));
    }

    /** Promise 3: "Returns the number of characters that it had." */
    private static void clearCounts() {
        for (int length : new int[] {0, 1, 39, 40}) {
            SlidingBlocks x = new SlidingBlocks();
            Start.type(x, "b".repeat(length));
            Check.due("3: of " + length, x.clear(), length);
            Check.due("3: then empty", x.clear(), 0);
            Check.due("3: the next one is the first", x.type('a'), 1);
            Check.due("3: nothing of before is left", x.read(), 1);
            Check.due("3: only the new one", x.frame(0), 1);
        }
        SlidingBlocks over = new SlidingBlocks();
        Start.type(over, ".".repeat(43));
        Check.due("3: the refused ones do not count", over.clear(), 40);
        Check.due("3: no act", over.undo(), NONE);
    }

    /** Promise 4: "Returns the number of blocks". */
    private static void readAnswersBlocks() {
        String[] texts = {".", "a", "ab", "abc", "abcd", "abcde", "abcdef", "abcdef/.....g"};
        for (int blocks = 0; blocks < texts.length; blocks++) {
            whole("4", texts[blocks], blocks);
        }
        whole("4", "#", 0);
        whole("4", "aaaaaa/aaaaaa", 1);
    }

    /** Promise 4: "there is no goal then, and the record is 0". */
    private static void readForgets() {
        SlidingBlocks x = Start.with("ab./...", 0, 3);
        x.step(0, 2);
        x.step(1, 1);
        Check.due("4: solved before", x.frame(8), 1);
        Check.due("4: steps before", x.frame(4), 2);
        Check.due("4: read()", Start.read(x, "ab./..."), 2);
        int[] numbers = {3, 2, 2, 4, 0, 0, NONE, NONE, 0};
        for (int what = 0; what < numbers.length; what++) {
            Check.due("4: frame(" + what + ") then", x.frame(what), numbers[what]);
        }
        Check.due("4: no distance then", x.distance(false), STATE);
        Check.due("4: the blocks are back", x.block(1, 0), 1);
        Twin.alike("4: as if read at first", y -> {
            Start.read(y, "abc/...");
            y.goal(0, 3);
            y.step(0, 2);
            Start.read(y, "ab./...");
        }, y -> Start.read(y, "ab./..."));
    }

    /** Promise 4: "The buffer is empty then (with an error it stays)." */
    private static void readAndTheBuffer() {
        SlidingBlocks x = new SlidingBlocks();
        Start.type(x, "ab/a");
        Check.due("4: too early", x.read(), -104);
        Check.due("4: too early again", x.read(), -104);
        Check.due("4: it can be gone on with", x.type('b'), 5);
        Check.due("4: now it is whole", x.read(), 2);
        Check.due("4: empty then", x.read(), -100);
        Check.due("4: nothing to clear", x.clear(), 0);
        Check.due("4: the frame stays", x.frame(0), 2);
        Check.due("4: one act", x.undo(), 0);
    }

    /** Promise 4: "Makes the text the frame", whatever was read before, with a fault or without. */
    private static void readOneAfterAnother() {
        String[] texts = {"a", "...../.aaa./.aba./.aaa.", "a.../a.b#/aabb", "ab/..", "a.a/###", "##/##/.a", "ab.a/ba..",
            "....../..a.../....../......", "./a/./b/./.", "abcdef/g.....", "abcdef/gh....", "a..b", "..", "a./.a"};
        for (String first : texts) {
            for (String second : texts) {
                SlidingBlocks x = new SlidingBlocks();
                Start.read(x, first);
                int got = Start.read(x, second);
                SlidingBlocks y = new SlidingBlocks();
                Start.read(y, first);
                SlidingBlocks alone = new SlidingBlocks();
                Check.due("4: " + first + " then " + second, got, Start.read(alone, second));
                SlidingBlocks due = got < 0 ? y : alone;
                Check.due("4: all of " + first + " then " + second, x.fingerprint(), due.fingerprint());
            }
        }
    }

    /** Promise 5: each number at its least and at its greatest. */
    private static void frameNumbers() {
        SlidingBlocks full = Start.with("ab/#c", 2, 3);
        Check.due("5: no free cell", full.frame(3), 0);
        Check.due("5: the greatest block of the goal", full.frame(6), 2);
        Check.due("5: its place", full.frame(7), 3);
        Check.due("5: solved", full.frame(8), 1);
        SlidingBlocks walls = Start.with("####/####/####/####/####/####");
        Check.due("5: walls alone", walls.frame(3), 0);
        Check.due("5: no block", walls.frame(2), 0);
        SlidingBlocks wide = Start.with("aa./a../...", 0, 0);
        Check.due("5: free cells", wide.frame(3), 6);
        Check.due("5: block 0 of the goal", wide.frame(6), 0);
        Check.due("5: place 0 of the goal", wide.frame(7), 0);
        wide.step(0, 1);
        Check.due("5: free cells after a step", wide.frame(3), 6);
        Check.due("5: no longer solved", wide.frame(8), 0);
        Check.due("5: one step", wide.frame(4), 1);
        Check.due("5: one slide", wide.frame(5), 1);
    }

    /** Promise 5: "BAD if what is not in its range". */
    private static void frameOutside() {
        Twin.refused("5: frame(-1)", x -> Start.read(x, "a.b"), x -> x.frame(-1), BAD);
        Twin.refused("5: frame(9)", x -> Start.read(x, "a.b"), x -> x.frame(9), BAD);
        for (int what : FAR_OFF) {
            Check.due("5: frame(" + what + ")", Start.with("a.b").frame(what), BAD);
        }
    }

    /** Promise 6: "BAD if there is no such cell". */
    private static void cellsOutside() {
        String[] texts = {"a", "a.", "a/.", "ab./.#.", "....../....../....../.....a"};
        int[] cells = {1, 2, 2, 6, 24};
        for (int i = 0; i < texts.length; i++) {
            SlidingBlocks x = Start.with(texts[i]);
            Check.due("6: before the first of " + texts[i], x.cell(-1), BAD);
            Check.due("6: the last of " + texts[i], x.cell(cells[i] - 1), i == 0 || i == 4 ? 0 : NONE);
            for (int index = cells[i]; index < 70; index++) {
                Check.due("6: cell(" + index + ") of " + texts[i], x.cell(index), BAD);
            }
            for (int index : FAR_OFF) {
                Check.due("6: cell(" + index + ") of " + texts[i], x.cell(index), BAD);
            }
        }
    }

    /** Promise 7: "BAD if there is no such block, or what is not in its range". */
    private static void blockOutside() {
        SlidingBlocks x = Start.with("ab./...");
        for (int what = 0; what <= 6; what++) {
            Check.due("7: a last block", x.block(1, what) == BAD ? 1 : 0, 0);
            Check.due("7: block(2, " + what + ")", x.block(2, what), BAD);
            Check.due("7: block(-1, " + what + ")", x.block(-1, what), BAD);
        }
        Check.due("7: block(1, -1)", x.block(1, -1), BAD);
        Check.due("7: block(1, 7)", x.block(1, 7), BAD);
        Check.due("7: both are not allowed", x.block(2, 7), BAD);
        for (int n : FAR_OFF) {
            Check.due("7: block(" + n + ", 0)", x.block(n, 0), BAD);
            Check.due("7: block(0, " + n + ")", x.block(0, n), BAD);
        }
        Twin.refused("7: no such block", y -> Start.read(y, "ab."), y -> y.block(2, 0), BAD);
    }

    /** Promise 7: "4 the set of the directions in which a step is possible, bit d for direction d". */
    private static void directionSets() {
        for (int set = 0; set < 16; set++) {
            String text = "." + sign(set, 0) + "./" + sign(set, 3) + "a" + sign(set, 1) + "/." + sign(set, 2) + ".";
            SlidingBlocks x = Start.with(text);
            Check.due("7: directions in " + text, x.block(0, 4), set);
            for (int direction = 0; direction < 4; direction++) {
                boolean possible = x.step(0, direction) >= 0;
                Check.due("7: step(0, " + direction + ") in " + text, possible ? 1 : 0, set >> direction & 1);
                if (possible) {
                    x.undo();
                }
            }
        }
        Check.due("7: a block alone in its frame", Start.with("a").block(0, 4), 0);
    }

    private static char sign(int set, int direction) {
        return (set >> direction & 1) == 0 ? '#' : '.';
    }

    /** Promise 7: "5 the number of other places to which it can slide". */
    private static void otherPlaces() {
        Check.due("7: nowhere", Start.with("a").block(0, 5), 0);
        Check.due("7: nowhere among walls", Start.with(".#./#a#/.#.").block(0, 5), 0);
        Check.due("7: one place", Start.with("a.#.").block(0, 5), 1);
        Check.due("7: all 23 other cells", Start.with("....../...a../....../......").block(0, 5), 23);
        Check.due("7: a wide block's places", Start.with("aa../..../....").block(0, 5), 8);
        Check.due("7: not behind another block", Start.with("a.b.").block(0, 5), 1);
        Check.due("7: not behind a wall", Start.with("a.#./..#.").block(0, 5), 3);
        Check.due("7: too wide for the gap", Start.with("aa./##./...").block(0, 5), 1);
        Check.due("7: over its own cells", Start.with("aa./aa./...").block(0, 5), 3);
        Check.due("7: round a corner alone", Start.with("a##/..#/#..").block(0, 5), 4);
    }

    /** Promise 7: "6 the smallest number of a block with the same shape (possibly itself)". */
    private static void sameShapes() {
        SlidingBlocks x = Start.with("abbc/addc/eeff");
        int[] due = {0, 1, 0, 1, 1, 1};
        for (int b = 0; b < due.length; b++) {
            Check.due("7: like block " + b, x.block(b, 6), due[b]);
        }
        SlidingBlocks seven = Start.with("abcdef/.....g");
        Check.due("7: the last of seven like the first", seven.block(6, 6), 0);
        Check.due("7: the first like itself", seven.block(0, 6), 0);
        SlidingBlocks corners = Start.with("aa.bb/a...b/c...d/cc.dd");
        for (int b = 0; b < 4; b++) {
            Check.due("7: a turned corner is another shape", corners.block(b, 6), b);
        }
        SlidingBlocks twins = Start.with(".a.b/aabb/..c./.cc.");
        Check.due("7: the same corner", twins.block(1, 6), 0);
        Check.due("7: the same corner elsewhere", twins.block(2, 6), 0);
        SlidingBlocks holes = Start.with("aaabbb/a.ab.b/aaabb.");
        Check.due("7: one cell less", holes.block(1, 6), 1);
        SlidingBlocks moved = Start.with("a.b/...");
        moved.slide(1, 5);
        Check.due("7: the same wherever it is", moved.block(1, 6), 0);
        SlidingBlocks flat = Start.with("aabb/a..b");
        Check.due("7: a mirrored shape is another", flat.block(1, 6), 1);
    }
}
