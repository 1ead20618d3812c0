/** Objects with a text already read. */
final class Start {
    private Start() {
    }

    static void type(SlidingBlocks x, String text) {
        for (char c : text.toCharArray()) {
            x.type(c);
        }
    }

    /** Reads the text and nothing that was in the buffer before. */
    static int read(SlidingBlocks x, String text) {
        x.clear();
        type(x, text);
        return x.read();
    }

    static SlidingBlocks with(String text) {
        SlidingBlocks x = new SlidingBlocks();
        read(x, text);
        return x;
    }

    static SlidingBlocks with(String text, int goalBlock, int goalPlace) {
        SlidingBlocks x = with(text);
        x.goal(goalBlock, goalPlace);
        return x;
    }
}
