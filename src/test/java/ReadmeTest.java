import java.io.File;
import java.lang.reflect.Method;
import java.lang.reflect.Modifier;
import java.nio.file.Files;
import java.nio.file.Path;
import java.util.regex.Matcher;
import java.util.regex.Pattern;

/** README.md tells the class and its tests as they stand; run in the project's folder. */
public final class ReadmeTest {
    private static final Pattern EXAMPLE = Pattern.compile("(?s)```java\n(.*?)```");
    private static final Pattern TEXT = Pattern.compile("\"(.*)\"\\.toCharArray");
    private static final Pattern CALL = Pattern.compile("^x\\.(\\w+)\\((.*)\\);\\s+// (-?\\d+)\\b.*$");
    /** The object, the loop that types the text (three lines), and then nothing but calls with answers. */
    private static final int LINES_BEFORE_CALLS = 4;

    private ReadmeTest() {
    }

    public static void main(String[] args) throws Exception {
        String page = Files.readString(Path.of("README.md"));
        example(page);
        calls(page);
        constants(page);
        tests(page);
        Check.end();
    }

    private static void example(String page) throws Exception {
        Matcher found = EXAMPLE.matcher(page);
        Check.due("README.md has an example", found.find() ? 1 : 0, 1);
        String example = found.group(1);
        SlidingBlocks x = new SlidingBlocks();
        Matcher text = TEXT.matcher(example);
        Check.due("with a text", text.find() ? 1 : 0, 1);
        Start.type(x, text.group(1));
        String[] lines = example.split("\n");
        Check.due("and with calls", lines.length > LINES_BEFORE_CALLS ? 1 : 0, 1);
        for (int i = LINES_BEFORE_CALLS; i < lines.length; i++) {
            Matcher call = CALL.matcher(lines[i]);
            boolean told = call.matches();
            Check.due("README.md tells the answer: " + lines[i], told ? 1 : 0, 1);
            if (told) {
                Check.due(lines[i], answer(x, call.group(1), call.group(2)), Long.parseLong(call.group(3)));
            }
        }
    }

    private static long answer(SlidingBlocks x, String name, String arguments) throws Exception {
        String[] written = arguments.isEmpty() ? new String[0] : arguments.split(", ");
        for (Method method : SlidingBlocks.class.getDeclaredMethods()) {
            if (!method.getName().equals(name)) {
                continue;
            }
            Object[] values = new Object[written.length];
            for (int i = 0; i < written.length; i++) {
                boolean isTruth = method.getParameterTypes()[i] == boolean.class;
                values[i] = isTruth ? (Object) Boolean.valueOf(written[i]) : (Object) Integer.valueOf(written[i]);
            }
            return ((Number) method.invoke(x, values)).longValue();
        }
        throw new IllegalStateException("no call " + name);
    }

    private static void calls(String page) {
        for (Method method : SlidingBlocks.class.getDeclaredMethods()) {
            if (Modifier.isPublic(method.getModifiers())) {
                String start = "`" + method.getName() + "(";
                Check.due("README.md tells of " + method.getName(), page.contains(start) ? 1 : 0, 1);
            }
        }
    }

    private static void constants(String page) {
        Check.due("README.md tells BAD", page.contains("`BAD` (" + SlidingBlocks.BAD + ")") ? 1 : 0, 1);
        Check.due("README.md tells STATE", page.contains("`STATE` (" + SlidingBlocks.STATE + ")") ? 1 : 0, 1);
        Check.due("README.md tells FULL", page.contains("`FULL` (" + SlidingBlocks.FULL + ")") ? 1 : 0, 1);
        Check.due("README.md tells NONE", page.contains("`NONE` (" + SlidingBlocks.NONE + ")") ? 1 : 0, 1);
    }

    /** Each test is told of, and each test that is told of is there. */
    private static void tests(String page) {
        File[] files = new File("src/test/java").listFiles((folder, name) -> name.endsWith(".java"));
        Check.due("tests are found", files != null && files.length > 0 ? 1 : 0, 1);
        for (File file : files == null ? new File[0] : files) {
            String name = file.getName().replace(".java", "");
            Check.due("README.md tells of " + name, page.contains("`" + name + "`") ? 1 : 0, 1);
        }
        Matcher told = Pattern.compile("`(\\w+Test)`").matcher(page);
        while (told.find()) {
            boolean there = new File("src/test/java/" + told.group(1) + ".java").isFile();
            Check.due("the test " + told.group(1), there ? 1 : 0, 1);
        }
    }
}
