import java.util.ArrayDeque;
import java.util.ArrayList;
import java.util.Arrays;
import java.util.HashMap;
import java.util.HashSet;
import java.util.LinkedHashMap;
import java.util.List;
import java.util.Map;
import java.util.Set;
import java.util.TreeSet;

/**
 * The document once more, written as plainly as can be and with other means than the class: grids
 * of cells, lists of places, moves looked up one by one, distances by relaxation until nothing
 * changes. Slow, but easy to hold against the document's words.
 */
final class Model {
    /** One state of all that the history keeps; never changed after it has been made. */
    private static final class Snap {
        int w = 1;
        int h = 1;
        boolean[] wall = new boolean[1];
        /** For each block its cells as {x, y}, counted from the corner of its rectangle. */
        List<List<List<Integer>>> shapes = new ArrayList<>();
        List<Integer> places = new ArrayList<>();
        int goalBlock = -9;
        int goalPlace = -9;
        int steps = 0;
        int slides = 0;
        int latest = -9;

        Snap copy() {
            Snap s = new Snap();
            s.w = w;
            s.h = h;
            s.wall = wall;
            s.shapes = shapes;
            s.places = new ArrayList<>(places);
            s.goalBlock = goalBlock;
            s.goalPlace = goalPlace;
            s.steps = steps;
            s.slides = slides;
            s.latest = latest;
            return s;
        }
    }

    /** All states that can be reached, each with its distances. */
    private static final class World {
        boolean full = false;
        Set<List<Integer>> states = new TreeSet<>((a, b) -> compare(a, b));
        Map<List<Integer>, Integer> far = new HashMap<>();
    }

    private final StringBuilder buffer = new StringBuilder();
    private final ArrayDeque<Snap> history = new ArrayDeque<>();
    private final Map<String, World> worlds = new HashMap<>();
    private Snap now = new Snap();

    private static int compare(List<Integer> a, List<Integer> b) {
        for (int i = 0; i < a.size(); i++) {
            if (!a.get(i).equals(b.get(i))) {
                return a.get(i) - b.get(i);
            }
        }
        return 0;
    }

    int type(int c) {
        if (c < 32 || c > 126) {
            return -1;
        }
        if (buffer.length() == 40) {
            return -3;
        }
        buffer.append((char) c);
        return buffer.length();
    }

    int clear() {
        int had = buffer.length();
        buffer.setLength(0);
        return had;
    }

    int read() {
        String text = buffer.toString();
        for (int i = 0; i < text.length(); i++) {
            if (!canBegin(text.substring(0, i + 1))) {
                return -100 - i;
            }
        }
        String[] rows = text.split("/", -1);
        if (rows[rows.length - 1].length() < rows[0].length() || rows[0].isEmpty()) {
            return -100 - text.length();
        }
        String letters = lettersOf(text);
        for (char letter : letters.toCharArray()) {
            if (!connected(rows, letter)) {
                return -100 - text.indexOf(letter);
            }
        }
        Snap next = new Snap();
        next.w = rows[0].length();
        next.h = rows.length;
        next.wall = new boolean[next.w * next.h];
        for (int i = 0; i < next.wall.length; i++) {
            next.wall[i] = rows[i / next.w].charAt(i % next.w) == '#';
        }
        for (char letter : letters.toCharArray()) {
            List<List<Integer>> cells = cellsOf(rows, letter);
            int left = cells.stream().mapToInt(c -> c.get(0)).min().getAsInt();
            int top = cells.stream().mapToInt(c -> c.get(1)).min().getAsInt();
            List<List<Integer>> shape = new ArrayList<>();
            for (List<Integer> c : cells) {
                shape.add(List.of(c.get(0) - left, c.get(1) - top));
            }
            next.shapes.add(shape);
            next.places.add(top * next.w + left);
        }
        act(next);
        buffer.setLength(0);
        return letters.length();
    }

    /** Whether a text could begin so: false at the first character that cannot stand at its place. */
    private static boolean canBegin(String start) {
        String[] rows = start.split("/", -1);
        int cells = 0;
        for (int y = 0; y < rows.length; y++) {
            int most = y == 0 ? 6 : rows[0].length();
            boolean ended = y < rows.length - 1;
            if (rows[y].length() > most || ended && (rows[y].isEmpty() || rows[y].length() < rows[0].length())) {
                return false;
            }
            cells += rows[y].length();
        }
        return rows.length <= 6 && cells <= 24 && lettersOf(start).length() <= 7
            && start.matches("[a-z.#/]*");
    }

    private static String lettersOf(String text) {
        StringBuilder letters = new StringBuilder();
        for (char c : text.toCharArray()) {
            if (c >= 'a' && c <= 'z' && letters.indexOf("" + c) < 0) {
                letters.append(c);
            }
        }
        return letters.toString();
    }

    private static List<List<Integer>> cellsOf(String[] rows, char letter) {
        List<List<Integer>> cells = new ArrayList<>();
        for (int y = 0; y < rows.length; y++) {
            for (int x = 0; x < rows[y].length(); x++) {
                if (rows[y].charAt(x) == letter) {
                    cells.add(List.of(x, y));
                }
            }
        }
        return cells;
    }

    private static boolean connected(String[] rows, char letter) {
        List<List<Integer>> cells = cellsOf(rows, letter);
        Set<List<Integer>> open = new HashSet<>(cells);
        ArrayDeque<List<Integer>> queue = new ArrayDeque<>();
        queue.add(cells.get(0));
        open.remove(cells.get(0));
        while (!queue.isEmpty()) {
            List<Integer> c = queue.remove();
            for (int[] d : new int[][] {{0, -1}, {1, 0}, {0, 1}, {-1, 0}}) {
                List<Integer> n = List.of(c.get(0) + d[0], c.get(1) + d[1]);
                if (open.remove(n)) {
                    queue.add(n);
                }
            }
        }
        return open.isEmpty();
    }

    private void act(Snap next) {
        history.addLast(now.copy());
        if (history.size() > 10) {
            history.removeFirst();
        }
        now = next;
    }

    private int blocks() {
        return now.shapes.size();
    }

    private boolean has(int block) {
        return block >= 0 && block < blocks();
    }

    /** What stands in each cell: -9 free, -10 a wall, a block; null if blocks do not fit in so. */
    private int[] grid(List<Integer> places, int removed) {
        int[] grid = new int[now.w * now.h];
        for (int i = 0; i < grid.length; i++) {
            grid[i] = now.wall[i] ? -10 : -9;
        }
        for (int b = 0; b < blocks(); b++) {
            if (b == removed) {
                continue;
            }
            for (List<Integer> cell : now.shapes.get(b)) {
                int x = places.get(b) % now.w + cell.get(0);
                int y = places.get(b) / now.w + cell.get(1);
                if (x >= now.w || y >= now.h || grid[y * now.w + x] != -9) {
                    return null;
                }
                grid[y * now.w + x] = b;
            }
        }
        return grid;
    }

    private List<Integer> after(List<Integer> places, int block, int direction, int removed) {
        int x = places.get(block) % now.w + (direction == 1 ? 1 : direction == 3 ? -1 : 0);
        int y = places.get(block) / now.w + (direction == 2 ? 1 : direction == 0 ? -1 : 0);
        if (x < 0 || y < 0 || x >= now.w || y >= now.h) {
            return null;
        }
        List<Integer> next = new ArrayList<>(places);
        next.set(block, y * now.w + x);
        return grid(next, removed) == null ? null : next;
    }

    /** All states to which one block brings this one, with the least number of steps for it. */
    private Map<List<Integer>, Integer> slidesOf(List<Integer> places, int block, int removed) {
        Map<List<Integer>, Integer> found = new LinkedHashMap<>();
        found.put(places, 0);
        List<List<Integer>> order = new ArrayList<>(found.keySet());
        for (int i = 0; i < order.size(); i++) {
            for (int d = 0; d < 4; d++) {
                List<Integer> next = after(order.get(i), block, d, removed);
                if (next != null && !found.containsKey(next)) {
                    found.put(next, found.get(order.get(i)) + 1);
                    order.add(next);
                }
            }
        }
        found.remove(places);
        return found;
    }

    private List<List<Integer>> movesOf(List<Integer> places, int block, int removed, boolean slides) {
        if (slides) {
            return new ArrayList<>(slidesOf(places, block, removed).keySet());
        }
        List<List<Integer>> moves = new ArrayList<>();
        for (int d = 0; d < 4; d++) {
            List<Integer> next = after(places, block, d, removed);
            if (next != null) {
                moves.add(next);
            }
        }
        return moves;
    }

    private World world(int removed, boolean slides) {
        String key = now.w + "|" + Arrays.toString(now.wall) + now.shapes + now.places + removed + "|"
            + slides + now.goalBlock + "|" + now.goalPlace;
        World known = worlds.get(key);
        if (known == null) {
            known = build(removed, slides);
            if (worlds.size() > 20) {
                worlds.clear();
            }
            worlds.put(key, known);
        }
        return known;
    }

    private World build(int removed, boolean slides) {
        World world = new World();
        Map<List<Integer>, List<List<Integer>>> moves = new LinkedHashMap<>();
        List<Integer> start = new ArrayList<>(now.places);
        if (removed >= 0) {
            start.set(removed, 0);
        }
        ArrayDeque<List<Integer>> queue = new ArrayDeque<>();
        queue.add(start);
        world.states.add(start);
        while (!queue.isEmpty()) {
            List<Integer> s = queue.removeLast();
            List<List<Integer>> all = new ArrayList<>();
            for (int b = 0; b < blocks(); b++) {
                if (b != removed) {
                    all.addAll(movesOf(s, b, removed, slides));
                }
            }
            moves.put(s, all);
            for (List<Integer> n : all) {
                if (world.states.add(n)) {
                    queue.add(n);
                }
            }
            if (world.states.size() > 2000) {
                world.full = true;
                return world;
            }
        }
        if (now.goalBlock >= 0) {
            relax(world, moves);
        }
        return world;
    }

    private void relax(World world, Map<List<Integer>, List<List<Integer>>> moves) {
        for (List<Integer> s : world.states) {
            if (s.get(now.goalBlock) == now.goalPlace) {
                world.far.put(s, 0);
            }
        }
        boolean changed = true;
        while (changed) {
            changed = false;
            for (Map.Entry<List<Integer>, List<List<Integer>>> e : moves.entrySet()) {
                int best = world.far.getOrDefault(e.getKey(), 1 << 20);
                int least = best;
                for (List<Integer> n : e.getValue()) {
                    least = Math.min(least, world.far.getOrDefault(n, 1 << 20) + 1);
                }
                if (least < best) {
                    world.far.put(e.getKey(), least);
                    changed = true;
                }
            }
        }
    }

    int frame(int what) {
        switch (what) {
            case 0: return now.w;
            case 1: return now.h;
            case 2: return blocks();
            case 3: return (int) Arrays.stream(grid(now.places, -1)).filter(c -> c == -9).count();
            case 4: return now.steps;
            case 5: return now.slides;
            case 6: return now.goalBlock;
            case 7: return now.goalPlace;
            case 8: return isSolved() ? 1 : 0;
            default: return -1;
        }
    }

    private boolean isSolved() {
        return now.goalBlock >= 0 && now.places.get(now.goalBlock) == now.goalPlace;
    }

    int cell(int index) {
        return index < 0 || index >= now.w * now.h ? -1 : grid(now.places, -1)[index];
    }

    int block(int block, int what) {
        if (!has(block)) {
            return -1;
        }
        List<List<Integer>> shape = now.shapes.get(block);
        switch (what) {
            case 0: return now.places.get(block);
            case 1: return shape.size();
            case 2: return shape.stream().mapToInt(c -> c.get(0)).max().getAsInt() + 1;
            case 3: return shape.stream().mapToInt(c -> c.get(1)).max().getAsInt() + 1;
            case 4:
                int set = 0;
                for (int d = 0; d < 4; d++) {
                    set += after(now.places, block, d, -1) != null ? 1 << d : 0;
                }
                return set;
            case 5: return slidesOf(now.places, block, -1).size();
            case 6: return now.shapes.indexOf(shape);
            default: return -1;
        }
    }

    private void move(int block, List<Integer> places, int steps, boolean slide) {
        Snap next = now.copy();
        next.places = places;
        next.steps += steps;
        next.slides += slide || now.latest != block ? 1 : 0;
        next.latest = block;
        act(next);
    }

    int step(int block, int direction) {
        if (!has(block) || direction < 0 || direction > 3) {
            return -1;
        }
        List<Integer> next = after(now.places, block, direction, -1);
        if (next == null) {
            return -2;
        }
        move(block, next, 1, false);
        return next.get(block);
    }

    int slide(int block, int place) {
        if (!has(block) || place < 0 || place >= now.w * now.h) {
            return -1;
        }
        for (Map.Entry<List<Integer>, Integer> e : slidesOf(now.places, block, -1).entrySet()) {
            if (e.getKey().get(block) == place) {
                move(block, e.getKey(), e.getValue(), true);
                return e.getValue();
            }
        }
        return -2;
    }

    int goal(int block, int place) {
        if (!has(block) || place < 0 || place >= now.w * now.h) {
            return -1;
        }
        if (place % now.w + block(block, 2) > now.w || place / now.w + block(block, 3) > now.h) {
            return -1;
        }
        Snap next = now.copy();
        next.goalBlock = block;
        next.goalPlace = place;
        act(next);
        return isSolved() ? 1 : 0;
    }

    int states() {
        World world = world(-1, false);
        return world.full ? -3 : world.states.size();
    }

    int solved() {
        if (now.goalBlock < 0) {
            return -2;
        }
        World world = world(-1, false);
        return world.full ? -3 : (int) world.far.values().stream().filter(d -> d == 0).count();
    }

    int distance(boolean slides) {
        if (now.goalBlock < 0) {
            return -2;
        }
        World world = world(-1, slides);
        return world.full ? -3 : world.far.getOrDefault(now.places, -9);
    }

    private List<Integer> hinted(boolean slides, int block) {
        World world = world(-1, slides);
        List<Integer> best = null;
        for (List<Integer> n : movesOf(now.places, block, -1, slides)) {
            boolean nearer = world.far.get(n) == world.far.get(now.places) - 1;
            if (nearer && (best == null || n.get(block) < best.get(block))) {
                best = n;
            }
        }
        return best;
    }

    int hint(boolean slides) {
        int here = distance(slides);
        if (here <= 0) {
            return here == 0 ? -9 : here;
        }
        for (int b = 0; b < blocks(); b++) {
            List<Integer> best = hinted(slides, b);
            if (best != null) {
                return 100 * b + best.get(b);
            }
        }
        throw new IllegalStateException("a distance without a move");
    }

    int follow(boolean slides) {
        int hint = hint(slides);
        if (hint < 0) {
            return -2;
        }
        int block = hint / 100;
        List<Integer> next = hinted(slides, block);
        move(block, next, slidesOf(now.places, block, -1).get(next), slides);
        return distance(slides);
    }

    int worst(boolean slides) {
        int here = distance(slides);
        return here < 0 ? here : world(-1, slides).far.values().stream().mapToInt(d -> d).max().getAsInt();
    }

    int hardest(boolean slides) {
        int worst = worst(slides);
        if (worst < 0) {
            return -2;
        }
        World world = world(-1, slides);
        Snap next = now.copy();
        next.places = world.states.stream().filter(s -> world.far.get(s) == worst).findFirst().get();
        next.steps = 0;
        next.slides = 0;
        next.latest = -9;
        act(next);
        return worst;
    }

    float mean(boolean slides) {
        if (worst(slides) < 0) {
            return -1;
        }
        World world = world(-1, slides);
        int sum = world.far.values().stream().mapToInt(d -> d).sum();
        return (float) sum / (float) world.states.size();
    }

    int places(int block) {
        if (!has(block)) {
            return -1;
        }
        World world = world(-1, false);
        if (world.full) {
            return -3;
        }
        int set = 0;
        for (List<Integer> s : world.states) {
            set |= 1 << s.get(block);
        }
        return set;
    }

    int without(int block, boolean slides) {
        if (!has(block)) {
            return -1;
        }
        if (now.goalBlock < 0 || now.goalBlock == block) {
            return -2;
        }
        World world = world(block, slides);
        List<Integer> here = new ArrayList<>(now.places);
        here.set(block, 0);
        return world.full ? -3 : world.far.getOrDefault(here, -9);
    }

    int undo() {
        if (history.isEmpty()) {
            return -9;
        }
        now = history.removeLast();
        return history.size();
    }

    long fingerprint() {
        long f = 199;
        for (int what = 0; what < 9; what++) {
            f = f * 31 + frame(what);
        }
        for (int i = 0; i < now.w * now.h; i++) {
            f = f * 31 + cell(i);
        }
        for (int b = 0; b < blocks(); b++) {
            for (int what = 0; what < 7; what++) {
                f = f * 31 + block(b, what);
            }
        }
        f = f * 31 + states();
        f = f * 31 + distance(false);
        return f * 31 + distance(true);
    }
}
