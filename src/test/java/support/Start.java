/** Objects with a text already read. */
final class Start {
    private Start() {
    }

    static void type(SlidingBlocks x, String text) {
        for (char c : text.toCharArray()) {
            x.type(c);
        }
    }

    static SlidingBlocks with(String text) {
        SlidingBlocks x = new SlidingBlocks();
        type(x, text);
        x.read();
        return x;
    }
}
