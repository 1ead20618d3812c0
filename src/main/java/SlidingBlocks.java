import java.util.Arrays;

/**
 * Blocks that slide in a frame. A frame has at most 24 cells, so a set of cells is an int with a
 * bit for each cell: a block at a place is its shape, shifted by the place.
 */
public final class SlidingBlocks {
    public static final int BAD = -1;
    public static final int STATE = -2;
    public static final int FULL = -3;
    public static final int NONE = -9;

    private static final int WALL = -10;
    private static final int TEXT_FAULT = -100;

    private static final int MOST_SIGNS = 40;
    private static final int MOST_SIDE = 6;
    private static final int MOST_CELLS = 24;
    private static final int MOST_BLOCKS = 7;
    private static final int MOST_KEPT = 10;
    private static final int MOST_STATES = 2000;

    private static final int DIRECTIONS = 4;
    private static final int ALL_DIRECTIONS = 15;
    private static final int UP = 0;
    private static final int RIGHT = 1;
    private static final int DOWN = 2;
    private static final int LEFT = 3;

    /** Twice the states and more, so that a key finds its slot after few tries. */
    private static final int SLOTS = 4096;
    private static final int SLOT_SHIFT = 52;
    private static final long SLOT_FACTOR = 0x9E3779B97F4A7C15L;

    private static final int PLACE_BITS = 5;
    private static final int PLACE_MASK = 31;
    private static final int MOVE_FACTOR = 100;

    private final Text text;
    private final Board board;
    private final Board draft;
    private final History history;
    private final Reach reach;
    private final Space space;
    private final Space trial;
    private int readings;

    public SlidingBlocks() {
        text = new Text();
        board = new Board();
        draft = new Board();
        history = new History();
        reach = new Reach();
        Scratch scratch = new Scratch();
        space = new Space(scratch);
        trial = new Space(scratch);
        readings = 0;
    }

    public int type(int c) {
        if (c < 32 || c > 126) {
            return BAD;
        }
        return text.append(c) ? text.length : FULL;
    }

    public int clear() {
        int had = text.length;
        text.length = 0;
        return had;
    }

    public int read() {
        int fault = text.parse(draft);
        if (fault >= 0) {
            return TEXT_FAULT - fault;
        }
        history.keep(board);
        readings++;
        draft.serial = readings;
        board.copy(draft);
        text.length = 0;
        return board.count;
    }

    public int frame(int what) {
        switch (what) {
            case 0:
                return board.width;
            case 1:
                return board.height;
            case 2:
                return board.count;
            case 3:
                return board.width * board.height - Integer.bitCount(board.taken());
            case 4:
                return board.steps;
            case 5:
                return board.slides;
            case 6:
                return board.goalBlock;
            case 7:
                return board.goalPlace;
            case 8:
                return board.atGoal() ? 1 : 0;
            default:
                return BAD;
        }
    }

    public int cell(int index) {
        if (!board.hasCell(index)) {
            return BAD;
        }
        int bit = 1 << index;
        if ((board.walls & bit) != 0) {
            return WALL;
        }
        for (int block = 0; block < board.count; block++) {
            if ((board.cellsOf(block) & bit) != 0) {
                return block;
            }
        }
        return NONE;
    }

    public int block(int block, int what) {
        if (!board.has(block)) {
            return BAD;
        }
        switch (what) {
            case 0:
                return at(board.spots, block);
            case 1:
                return Integer.bitCount(at(board.shapes, block));
            case 2:
                return at(board.wide, block);
            case 3:
                return at(board.high, block);
            case 4:
                return board.directionsOf(block);
            case 5:
                return reach.spread(board, block);
            case 6:
                return board.firstAlike(block);
            default:
                return BAD;
        }
    }

    public int step(int block, int direction) {
        if (!board.has(block) || direction < 0 || direction >= DIRECTIONS) {
            return BAD;
        }
        if ((board.directionsOf(block) >> direction & 1) == 0) {
            return STATE;
        }
        history.keep(board);
        int place = at(board.spots, block) + board.offset(direction);
        board.move(block, place, 1, false);
        return place;
    }

    public int slide(int block, int place) {
        if (!board.has(block) || !board.hasCell(place)) {
            return BAD;
        }
        reach.spread(board, block);
        int least = at(reach.far, place);
        if (least <= 0) {
            return STATE;
        }
        history.keep(board);
        board.move(block, place, least, true);
        return least;
    }

    public int goal(int block, int place) {
        if (!board.has(block) || !board.fits(block, place)) {
            return BAD;
        }
        history.keep(board);
        board.goalBlock = block;
        board.goalPlace = place;
        return board.atGoal() ? 1 : 0;
    }

    public int states() {
        space.explore(board, NONE);
        return space.tooMany ? FULL : space.size;
    }

    public int solved() {
        if (board.goalBlock == NONE) {
            return STATE;
        }
        space.explore(board, NONE);
        return space.tooMany ? FULL : space.countAt(board.goalBlock, board.goalPlace);
    }

    public int distance(boolean slides) {
        int greatest = greatest(space, NONE, slides);
        return greatest < 0 ? greatest : space.farOf(board.key(NONE), slides);
    }

    public int hint(boolean slides) {
        int greatest = greatest(space, NONE, slides);
        if (greatest < 0) {
            return greatest;
        }
        int here = space.farOf(board.key(NONE), slides);
        for (int block = 0; here > 0 && block < board.count; block++) {
            int place = nearerPlace(block, slides, here - 1);
            if (place >= 0) {
                return MOVE_FACTOR * block + place;
            }
        }
        return NONE;
    }

    public int follow(boolean slides) {
        int move = hint(slides);
        if (move < 0) {
            return STATE;
        }
        int block = move / MOVE_FACTOR;
        int place = move % MOVE_FACTOR;
        reach.spread(board, block);
        history.keep(board);
        board.move(block, place, at(reach.far, place), slides);
        return distance(slides);
    }

    public int worst(boolean slides) {
        return greatest(space, NONE, slides);
    }

    public int hardest(boolean slides) {
        int greatest = greatest(space, NONE, slides);
        if (greatest < 0) {
            return STATE;
        }
        history.keep(board);
        board.arrange(space.firstFar(slides, greatest));
        board.forgetMoves();
        return greatest;
    }

    public float mean(boolean slides) {
        if (greatest(space, NONE, slides) < 0 || space.size < 1) {
            return -1;
        }
        return (float) space.distances(slides).sum / (float) space.size;
    }

    public int places(int block) {
        if (!board.has(block)) {
            return BAD;
        }
        space.explore(board, NONE);
        return space.tooMany ? FULL : space.placesOf(block);
    }

    public int without(int block, boolean slides) {
        if (!board.has(block)) {
            return BAD;
        }
        if (board.goalBlock == block) {
            return STATE;
        }
        int greatest = greatest(trial, block, slides);
        return greatest < 0 ? greatest : trial.farOf(board.key(block), slides);
    }

    public int undo() {
        return history.restore(board);
    }

    public long fingerprint() {
        long sum = 199;
        for (int what = 0; what <= 8; what++) {
            sum = 31 * sum + frame(what);
        }
        for (int index = 0; index < board.width * board.height; index++) {
            sum = 31 * sum + cell(index);
        }
        for (int block = 0; block < board.count; block++) {
            for (int what = 0; what <= 6; what++) {
                sum = 31 * sum + block(block, what);
            }
        }
        sum = 31 * sum + states();
        sum = 31 * sum + distance(false);
        return 31 * sum + distance(true);
    }

    /** The greatest distance without a block (or NONE), or the error that comes before it. */
    private int greatest(Space where, int removed, boolean slides) {
        if (board.goalBlock == NONE) {
            return STATE;
        }
        where.explore(board, removed);
        if (where.tooMany) {
            return FULL;
        }
        Distances distances = where.distances(slides);
        distances.measure(board, where);
        return distances.greatest;
    }

    /** The smallest place to which a move brings the block with the distance that is wanted. */
    private int nearerPlace(int block, boolean slides, int wanted) {
        reach.spread(board, block);
        for (int place = 0; place < MOST_CELLS; place++) {
            int least = at(reach.far, place);
            boolean isMove = slides ? least > 0 : least == 1;
            if (isMove && space.farOf(board.keyAfter(block, place), slides) == wanted) {
                return place;
            }
        }
        return NONE;
    }

    // Every index that is not a loop's own counter is tested here, in one place.

    private static int at(int[] row, int index) {
        return index >= 0 && index < row.length ? row[index] : 0;
    }

    private static long at(long[] row, int index) {
        return index >= 0 && index < row.length ? row[index] : 0L;
    }

    private static void put(int[] row, int index, int value) {
        if (index >= 0 && index < row.length) {
            row[index] = value;
        }
    }

    private static void put(long[] row, int index, long value) {
        if (index >= 0 && index < row.length) {
            row[index] = value;
        }
    }

    private static void copyRow(int[] from, int[] to) {
        System.arraycopy(from, 0, to, 0, Math.min(from.length, to.length));
    }

    /** Where the place of a block stands in a key: block 0 highest, so that keys are ordered as states are. */
    private static int keyShift(int block) {
        return PLACE_BITS * (MOST_BLOCKS - 1 - block);
    }

    private static int placeIn(long key, int block) {
        return (int) (key >>> (PLACE_BITS * (MOST_BLOCKS - 1 - block))) & PLACE_MASK;
    }

    /** The buffer, and the reading of its text. */
    private static final class Text {
        final int[] signs = new int[MOST_SIGNS];
        int length = 0;
        final int[] cells = new int[MOST_CELLS];
        int cellCount = 0;
        final int[] letters = new int[MOST_BLOCKS];
        int letterCount = 0;
        int width = 0;
        int rows = 1;
        int column = 0;

        boolean append(int sign) {
            if (length < 0 || length >= signs.length) {
                return false;
            }
            signs[length] = sign;
            length++;
            return true;
        }

        /** Reads the text into a board; answers the error place, or NONE. */
        int parse(Board into) {
            startParse();
            for (int i = 0; i < length && i < signs.length; i++) {
                boolean stands = signs[i] == '/' ? endRow() : addCell(signs[i]);
                if (!stands) {
                    return i;
                }
            }
            if (!isRowWhole()) {
                return length;
            }
            return fill(into);
        }

        private void startParse() {
            cellCount = 0;
            letterCount = 0;
            width = 0;
            rows = 1;
            column = 0;
        }

        private boolean isRowWhole() {
            return column > 0 && column == width;
        }

        private boolean endRow() {
            if (!isRowWhole() || rows >= MOST_SIDE) {
                return false;
            }
            rows++;
            column = 0;
            return true;
        }

        private boolean addCell(int sign) {
            int content = contentOf(sign);
            int mostColumns = rows == 1 ? MOST_SIDE : width;
            if (content == BAD || column >= mostColumns || cellCount >= MOST_CELLS) {
                return false;
            }
            if (content == letterCount) {
                put(letters, letterCount, sign);
                letterCount++;
            }
            put(cells, cellCount, content);
            cellCount++;
            column++;
            if (rows == 1) {
                width = column;
            }
            return true;
        }

        /** The block of a sign (the next number for a new one), NONE, WALL, or BAD if it is no cell. */
        private int contentOf(int sign) {
            if (sign == '.') {
                return NONE;
            }
            if (sign == '#') {
                return WALL;
            }
            if (sign < 'a' || sign > 'z') {
                return BAD;
            }
            for (int block = 0; block < letterCount; block++) {
                if (at(letters, block) == sign) {
                    return block;
                }
            }
            return letterCount < MOST_BLOCKS ? letterCount : BAD;
        }

        private int fill(Board into) {
            into.empty(width, rows);
            into.walls = cellsWith(WALL);
            for (int block = 0; block < letterCount; block++) {
                int cellsOfBlock = cellsWith(block);
                if (!into.isJoined(cellsOfBlock)) {
                    return textIndex(firstCell(block));
                }
                into.add(cellsOfBlock);
            }
            return NONE;
        }

        private int cellsWith(int content) {
            int set = 0;
            for (int i = 0; i < cellCount; i++) {
                if (at(cells, i) == content) {
                    set |= 1 << i;
                }
            }
            return set;
        }

        private int firstCell(int block) {
            for (int i = 0; i < cellCount; i++) {
                if (at(cells, i) == block) {
                    return i;
                }
            }
            return 0;
        }

        private int textIndex(int cell) {
            // a "/" stands before each row but the first
            return width < 1 ? cell : cell + cell / width;
        }
    }

    /** All that a history must keep: the frame with its blocks, the goal and the record. */
    private static final class Board {
        /** Which reading the frame is from: the states that can be reached depend on it alone. */
        int serial = 0;
        int width;
        int height;
        int walls;
        int count;
        int topRow;
        int rightColumn;
        int bottomRow;
        int leftColumn;
        final int[] shapes = new int[MOST_BLOCKS];
        final int[] wide = new int[MOST_BLOCKS];
        final int[] high = new int[MOST_BLOCKS];
        final int[] spots = new int[MOST_BLOCKS];
        int goalBlock;
        int goalPlace;
        int steps;
        int slides;
        int latest;

        Board() {
            empty(1, 1);
        }

        void copy(Board other) {
            serial = other.serial;
            width = other.width;
            height = other.height;
            walls = other.walls;
            count = other.count;
            topRow = other.topRow;
            rightColumn = other.rightColumn;
            bottomRow = other.bottomRow;
            leftColumn = other.leftColumn;
            copyRow(other.shapes, shapes);
            copyRow(other.wide, wide);
            copyRow(other.high, high);
            copyRow(other.spots, spots);
            goalBlock = other.goalBlock;
            goalPlace = other.goalPlace;
            steps = other.steps;
            slides = other.slides;
            latest = other.latest;
        }

        void empty(int newWidth, int newHeight) {
            width = newWidth;
            height = newHeight;
            walls = 0;
            count = 0;
            goalBlock = NONE;
            goalPlace = NONE;
            forgetMoves();
            topRow = (1 << width) - 1;
            bottomRow = topRow << ((height - 1) * width);
            leftColumn = 0;
            for (int y = 0; y < height; y++) {
                leftColumn |= 1 << (y * width);
            }
            rightColumn = leftColumn << (width - 1);
        }

        void forgetMoves() {
            steps = 0;
            slides = 0;
            latest = NONE;
        }

        void add(int cells) {
            int left = width;
            int right = 0;
            int top = height;
            int bottom = 0;
            for (int y = 0; y < height; y++) {
                for (int x = 0; x < width; x++) {
                    if ((cells >> (y * width + x) & 1) != 0) {
                        left = Math.min(left, x);
                        right = Math.max(right, x);
                        top = Math.min(top, y);
                        bottom = Math.max(bottom, y);
                    }
                }
            }
            int place = top * width + left;
            put(spots, count, place);
            put(shapes, count, cells >>> place);
            put(wide, count, right - left + 1);
            put(high, count, bottom - top + 1);
            count++;
        }

        boolean isJoined(int cells) {
            int grown = cells & -cells;
            for (int i = 0; i < MOST_CELLS; i++) {
                int right = (grown & ~rightColumn) << 1;
                int left = (grown & ~leftColumn) >>> 1;
                grown = (grown | right | left | grown << width | grown >>> width) & cells;
            }
            return grown == cells;
        }

        boolean has(int block) {
            return block >= 0 && block < count;
        }

        boolean hasCell(int index) {
            return index >= 0 && index < width * height;
        }

        boolean fits(int block, int place) {
            if (!hasCell(place) || width < 1) {
                return false;
            }
            return place % width + at(wide, block) <= width && place / width + at(high, block) <= height;
        }

        boolean atGoal() {
            return goalBlock != NONE && at(spots, goalBlock) == goalPlace;
        }

        int cellsOf(int block) {
            return at(shapes, block) << at(spots, block);
        }

        int taken() {
            int set = walls;
            for (int block = 0; block < count; block++) {
                set |= cellsOf(block);
            }
            return set;
        }

        int firstAlike(int block) {
            // rows are as long as the frame's in every shape, so equal sets are equal shapes
            for (int other = 0; other < block; other++) {
                if (at(shapes, other) == at(shapes, block)) {
                    return other;
                }
            }
            return block;
        }

        int offset(int direction) {
            switch (direction) {
                case UP:
                    return -width;
                case RIGHT:
                    return 1;
                case DOWN:
                    return width;
                default:
                    return -1;
            }
        }

        /** The set of the directions in which a block on these cells can step among the others. */
        int directions(int cells, int others) {
            int set = 0;
            if ((cells & topRow) == 0 && (cells >>> width & others) == 0) {
                set |= 1 << UP;
            }
            if ((cells & rightColumn) == 0 && (cells << 1 & others) == 0) {
                set |= 1 << RIGHT;
            }
            if ((cells & bottomRow) == 0 && (cells << width & others) == 0) {
                set |= 1 << DOWN;
            }
            if ((cells & leftColumn) == 0 && (cells >>> 1 & others) == 0) {
                set |= 1 << LEFT;
            }
            return set;
        }

        int directionsOf(int block) {
            int cells = cellsOf(block);
            return directions(cells, taken() & ~cells);
        }

        void move(int block, int place, int least, boolean isSlide) {
            put(spots, block, place);
            steps += least;
            if (isSlide || latest != block) {
                slides++;
            }
            latest = block;
        }

        long key(int removed) {
            long key = 0;
            for (int block = 0; block < count; block++) {
                if (block != removed) {
                    key |= (long) at(spots, block) << keyShift(block);
                }
            }
            return key;
        }

        long keyAfter(int block, int place) {
            return key(NONE) + ((long) (place - at(spots, block)) << keyShift(block));
        }

        void arrange(long key) {
            for (int block = 0; block < count; block++) {
                put(spots, block, placeIn(key, block));
            }
        }
    }

    /** The latest boards, the oldest at first; a full ring drops the oldest. */
    private static final class History {
        final Board[] kept = new Board[MOST_KEPT];
        int first = 0;
        int size = 0;

        History() {
            for (int i = 0; i < kept.length; i++) {
                kept[i] = new Board();
            }
        }

        void keep(Board board) {
            if (size >= MOST_KEPT) {
                first = (first + 1) % MOST_KEPT;
                size--;
            }
            Board place = boardAt(size);
            if (place != null) {
                place.copy(board);
                size++;
            }
        }

        int restore(Board board) {
            if (size < 1) {
                return NONE;
            }
            Board latest = boardAt(size - 1);
            if (latest == null) {
                return NONE;
            }
            board.copy(latest);
            size--;
            return size;
        }

        private Board boardAt(int index) {
            int i = (first + index) % MOST_KEPT;
            return i >= 0 && i < kept.length ? kept[i] : null;
        }
    }

    /** The places to which one block can slide, with the least numbers of steps. */
    private static final class Reach {
        final int[] far = new int[MOST_CELLS];
        final int[] queue = new int[MOST_CELLS];

        /** Fills far, -1 where the block cannot come; answers the number of other places. */
        int spread(Board board, int block) {
            int shape = at(board.shapes, block);
            int others = board.taken() & ~board.cellsOf(block);
            int start = at(board.spots, block);
            Arrays.fill(far, -1);
            put(far, start, 0);
            put(queue, 0, start);
            int found = 1;
            for (int head = 0; head < found && head < MOST_CELLS; head++) {
                int place = at(queue, head);
                int possible = board.directions(shape << place, others);
                for (int direction = 0; direction < DIRECTIONS; direction++) {
                    int next = place + board.offset(direction);
                    if ((possible >> direction & 1) != 0 && at(far, next) < 0) {
                        put(far, next, at(far, place) + 1);
                        put(queue, found, next);
                        found++;
                    }
                }
            }
            return found - 1;
        }
    }

    /** Rows that every search needs only while it runs. */
    private static final class Scratch {
        final int[] queue = new int[MOST_STATES];
        final int[] marks = new int[MOST_STATES];
        final int[] line = new int[MOST_CELLS];
    }

    /**
     * All states that can be reached, with or without one block. Moves lead to no other states, so
     * what was found for a reading stays good until another frame is looked at.
     */
    private static final class Space {
        final long[] keys = new long[MOST_STATES];
        /** For each state the possible steps, four bits a block. */
        final int[] steps = new int[MOST_STATES];
        /** The number of a state plus 1 at the slot of its key, 0 where there is none. */
        final int[] slots = new int[SLOTS];
        final Distances bySteps;
        final Distances bySlides;
        int size = 0;
        boolean tooMany = false;
        int serial = NONE;
        int removed = NONE;

        Space(Scratch scratch) {
            bySteps = new Distances(false, scratch);
            bySlides = new Distances(true, scratch);
        }

        Distances distances(boolean slides) {
            return slides ? bySlides : bySteps;
        }

        void explore(Board board, int without) {
            if (serial == board.serial && removed == without) {
                return;
            }
            serial = board.serial;
            removed = without;
            size = 0;
            tooMany = false;
            Arrays.fill(slots, 0);
            bySteps.forget();
            bySlides.forget();
            add(board.key(removed));
            for (int state = 0; state < size && state < MOST_STATES && !tooMany; state++) {
                expand(board, state);
            }
        }

        private void expand(Board board, int state) {
            long key = at(keys, state);
            int taken = takenIn(board, key);
            int possible = 0;
            for (int block = 0; block < board.count; block++) {
                if (block == removed) {
                    continue;
                }
                int cells = at(board.shapes, block) << placeIn(key, block);
                int set = board.directions(cells, taken & ~cells);
                possible |= set << (DIRECTIONS * block);
                for (int direction = 0; direction < DIRECTIONS; direction++) {
                    if ((set >> direction & 1) != 0) {
                        add(key + ((long) board.offset(direction) << keyShift(block)));
                    }
                }
            }
            put(steps, state, possible);
        }

        private int takenIn(Board board, long key) {
            int taken = board.walls;
            for (int block = 0; block < board.count; block++) {
                if (block != removed) {
                    taken |= at(board.shapes, block) << placeIn(key, block);
                }
            }
            return taken;
        }

        private void add(long key) {
            int slot = slotOf(key);
            if (at(slots, slot) != 0) {
                return;
            }
            if (size >= MOST_STATES) {
                tooMany = true;
                return;
            }
            put(keys, size, key);
            size++;
            put(slots, slot, size);
        }

        /** The slot that holds the key, or the free one where it belongs. */
        private int slotOf(long key) {
            int slot = (int) ((key * SLOT_FACTOR) >>> SLOT_SHIFT);
            for (int tries = 0; tries < SLOTS; tries++) {
                int state = slot >= 0 && slot < slots.length ? slots[slot] - 1 : -1;
                if (state < 0 || state >= keys.length || keys[state] == key) {
                    return slot;
                }
                slot = (slot + 1) & (SLOTS - 1);
            }
            return slot;
        }

        boolean canMove(int state, int block) {
            return (at(steps, state) >> (DIRECTIONS * block) & ALL_DIRECTIONS) != 0;
        }

        /** The state after a step, or -1 if it is not possible. */
        int after(Board board, int state, int block, int direction) {
            if ((at(steps, state) >> (DIRECTIONS * block + direction) & 1) == 0) {
                return -1;
            }
            long key = at(keys, state) + ((long) board.offset(direction) << keyShift(block));
            return at(slots, slotOf(key)) - 1;
        }

        int farOf(long key, boolean slides) {
            int state = at(slots, slotOf(key)) - 1;
            return state < 0 ? NONE : at(distances(slides).far, state);
        }

        int countAt(int block, int place) {
            int found = 0;
            for (int state = 0; state < size; state++) {
                if (placeIn(at(keys, state), block) == place) {
                    found++;
                }
            }
            return found;
        }

        int placesOf(int block) {
            int set = 0;
            for (int state = 0; state < size; state++) {
                set |= 1 << placeIn(at(keys, state), block);
            }
            return set;
        }

        /** The key of the first one of the states with this distance. */
        long firstFar(boolean slides, int wanted) {
            int[] far = distances(slides).far;
            long first = -1;
            for (int state = 0; state < size; state++) {
                long key = at(keys, state);
                if (at(far, state) == wanted && (first < 0 || key < first)) {
                    first = key;
                }
            }
            return first;
        }
    }

    /**
     * The distances of all states of a space, by steps or by slides. Every move can be made
     * backwards, so they are found by going from the solved states outwards.
     */
    private static final class Distances {
        final boolean slides;
        final Scratch scratch;
        final int[] far = new int[MOST_STATES];
        int goalBlock = NONE;
        int goalPlace = NONE;
        int found = 0;
        int sum = 0;
        int greatest = NONE;

        Distances(boolean slides, Scratch scratch) {
            this.slides = slides;
            this.scratch = scratch;
        }

        void forget() {
            goalBlock = NONE;
        }

        void measure(Board board, Space space) {
            if (goalBlock == board.goalBlock && goalPlace == board.goalPlace) {
                return;
            }
            goalBlock = board.goalBlock;
            goalPlace = board.goalPlace;
            beginAtSolved(space);
            for (int head = 0; head < found && head < MOST_STATES; head++) {
                int state = at(scratch.queue, head);
                for (int block = 0; block < board.count; block++) {
                    if (!space.canMove(state, block)) {
                        continue;
                    }
                    if (slides) {
                        slideFrom(board, space, state, block);
                    } else {
                        stepFrom(board, space, state, block);
                    }
                }
            }
            greatest = found < 1 ? NONE : at(far, at(scratch.queue, found - 1));
        }

        private void beginAtSolved(Space space) {
            Arrays.fill(far, -1);
            Arrays.fill(scratch.marks, 0);
            found = 0;
            sum = 0;
            for (int state = 0; state < space.size; state++) {
                if (placeIn(at(space.keys, state), goalBlock) == goalPlace) {
                    reach(state, 0);
                }
            }
        }

        private void reach(int state, int steps) {
            if (at(far, state) < 0) {
                put(far, state, steps);
                put(scratch.queue, found, state);
                found++;
                sum += steps;
            }
        }

        private void stepFrom(Board board, Space space, int state, int block) {
            int next = at(far, state) + 1;
            for (int direction = 0; direction < DIRECTIONS; direction++) {
                int to = space.after(board, state, block, direction);
                if (to >= 0) {
                    reach(to, next);
                }
            }
        }

        /**
         * The states that one block's slides join are marked for it at once: the first of them that
         * is looked at has the least distance, so none of the others can bring one nearer.
         */
        private void slideFrom(Board board, Space space, int state, int block) {
            int bit = 1 << block;
            if ((at(scratch.marks, state) & bit) != 0) {
                return;
            }
            int next = at(far, state) + 1;
            put(scratch.marks, state, at(scratch.marks, state) | bit);
            put(scratch.line, 0, state);
            int length = 1;
            for (int i = 0; i < length && i < MOST_CELLS; i++) {
                int from = at(scratch.line, i);
                for (int direction = 0; direction < DIRECTIONS; direction++) {
                    int to = space.after(board, from, block, direction);
                    if (to >= 0 && (at(scratch.marks, to) & bit) == 0) {
                        put(scratch.marks, to, at(scratch.marks, to) | bit);
                        put(scratch.line, length, to);
                        length++;
                        reach(to, next);
                    }
                }
            }
        }
    }
}
