import java.util.ArrayList;
import java.util.List;
import java.util.Random;

/** Long runs of calls in an order of chance (from fixed seeds), each answer held against the model. */
public final class RandomRunsTest {
    private static final int RUNS = 260;
    private static final int CALLS = 512;

    private final Random random;
    private final int run;
    private final SlidingBlocks blocks = new SlidingBlocks();
    private final Model model = new Model();
    private int calls = 0;

    private RandomRunsTest(int run) {
        this.run = run;
        this.random = new Random(7919L * run + 1);
    }

    public static void main(String[] args) {
        for (int run = 0; run < RUNS && Check.wrongSoFar() == 0; run++) {
            new RandomRunsTest(run).go();
        }
        Check.end();
    }

    private void due(String call, long got, long want) {
        calls++;
        Check.due("run " + run + ", call " + calls + ": " + call, got, want);
    }

    private void go() {
        while (calls < CALLS - 45) {
            enter(random.nextInt(4) == 0 ? anyText() : frameText());
            int moves = random.nextInt(60);
            for (int i = 0; i < moves && calls < CALLS - 45; i++) {
                anyCall();
            }
        }
    }

    private void enter(String text) {
        if (random.nextInt(10) != 0) {
            due("clear()", blocks.clear(), model.clear());
        }
        for (char c : text.toCharArray()) {
            due("type(" + (int) c + ")", blocks.type(c), model.type(c));
        }
        due("read() of " + text, blocks.read(), model.read());
        if (model.frame(2) > 0 && random.nextInt(5) != 0) {
            goalCall();
        }
    }

    private String anyText() {
        String signs = random.nextBoolean() ? ".#ab/" : "..aabcdefgh/#Z{`";
        int length = random.nextInt(random.nextBoolean() ? 8 : 42);
        int slash = 1 + random.nextInt(7);
        StringBuilder text = new StringBuilder();
        for (int i = 0; i < length; i++) {
            boolean row = random.nextInt(8) != 0 && i % (slash + 1) == slash;
            text.append(row ? '/' : signs.charAt(random.nextInt(signs.length())));
        }
        return text.toString();
    }

    /** A text without a fault most times: blocks grown cell by cell, and some walls. */
    private String frameText() {
        int w = 1 + random.nextInt(6);
        int h = 1 + random.nextInt(6);
        while (w * h > (random.nextInt(3) == 0 ? 24 : 14)) {
            w = 1 + random.nextInt(6);
            h = 1 + random.nextInt(6);
        }
        char[] grid = new char[w * h];
        java.util.Arrays.fill(grid, '.');
        int walls = random.nextInt(3) == 0 ? random.nextInt(1 + w * h / 4) : 0;
        for (int i = 0; i < walls; i++) {
            grid[random.nextInt(grid.length)] = '#';
        }
        int count = random.nextInt(8);
        for (int b = 0; b < count; b++) {
            grow(grid, w, (char) ('a' + (b * 11 + run) % 26), 1 + random.nextInt(4));
        }
        StringBuilder text = new StringBuilder();
        for (int i = 0; i < grid.length; i++) {
            text.append(i > 0 && i % w == 0 ? "/" : "").append(grid[i]);
        }
        return text.toString();
    }

    private void grow(char[] grid, int w, char letter, int size) {
        List<Integer> cells = new ArrayList<>();
        int next = random.nextInt(grid.length);
        for (int tries = 0; tries < 12 && cells.size() < size; tries++) {
            if (grid[next] == '.') {
                grid[next] = letter;
                cells.add(next);
            }
            if (cells.isEmpty()) {
                next = random.nextInt(grid.length);
                continue;
            }
            int from = cells.get(random.nextInt(cells.size()));
            int d = random.nextInt(4);
            int x = from % w + (d == 1 ? 1 : d == 3 ? -1 : 0);
            int to = from + (d == 0 ? -w : d == 1 ? 1 : d == 2 ? w : -1);
            next = x < 0 || x >= w || to < 0 || to >= grid.length ? from : to;
        }
    }

    private int anyBlock() {
        return random.nextInt(12) == 0 ? random.nextInt(20) - 6 : random.nextInt(Math.max(1, model.frame(2)));
    }

    private int anyPlace() {
        int cells = model.frame(0) * model.frame(1);
        return random.nextInt(15) == 0 ? random.nextInt(40) - 8 : random.nextInt(cells);
    }

    private void goalCall() {
        int b = anyBlock();
        int p = anyPlace();
        due("goal(" + b + ", " + p + ")", blocks.goal(b, p), model.goal(b, p));
    }

    private void anyCall() {
        boolean s = random.nextBoolean();
        int b = anyBlock();
        int p = anyPlace();
        switch (random.nextInt(24)) {
            case 0: {
                int what = random.nextInt(12) - 1;
                due("frame(" + what + ")", blocks.frame(what), model.frame(what));
                break;
            }
            case 1: due("cell(" + p + ")", blocks.cell(p), model.cell(p)); break;
            case 2:
            case 3: {
                int what = random.nextInt(9) - 1;
                due("block(" + b + ", " + what + ")", blocks.block(b, what), model.block(b, what));
                break;
            }
            case 4:
            case 5:
            case 6: {
                int d = random.nextInt(10) == 0 ? random.nextInt(9) - 2 : random.nextInt(4);
                due("step(" + b + ", " + d + ")", blocks.step(b, d), model.step(b, d));
                break;
            }
            case 7:
            case 8:
            case 9: due("slide(" + b + ", " + p + ")", blocks.slide(b, p), model.slide(b, p)); break;
            case 10: goalCall(); break;
            case 11: due("states()", blocks.states(), model.states()); break;
            case 12: due("solved()", blocks.solved(), model.solved()); break;
            case 13: due("distance(" + s + ")", blocks.distance(s), model.distance(s)); break;
            case 14: due("hint(" + s + ")", blocks.hint(s), model.hint(s)); break;
            case 15:
            case 16: due("follow(" + s + ")", blocks.follow(s), model.follow(s)); break;
            case 17: due("worst(" + s + ")", blocks.worst(s), model.worst(s)); break;
            case 18:
                if (random.nextInt(3) == 0) {
                    due("hardest(" + s + ")", blocks.hardest(s), model.hardest(s));
                }
                break;
            case 19:
                calls++;
                Check.dueFloat("run " + run + ", call " + calls + ": mean(" + s + ")", blocks.mean(s), model.mean(s));
                break;
            case 20: due("places(" + b + ")", blocks.places(b), model.places(b)); break;
            case 21: due("without(" + b + ", " + s + ")", blocks.without(b, s), model.without(b, s)); break;
            case 22: due("undo()", blocks.undo(), model.undo()); break;
            default: due("fingerprint()", blocks.fingerprint(), model.fingerprint()); break;
        }
    }
}
