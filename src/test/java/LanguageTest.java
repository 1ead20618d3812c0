import java.lang.reflect.Field;
import java.lang.reflect.Method;
import java.lang.reflect.Modifier;
import java.nio.file.Files;
import java.nio.file.Path;
import java.util.ArrayList;
import java.util.Arrays;
import java.util.List;
import java.util.regex.Matcher;
import java.util.regex.Pattern;

/** What can be looked at from outside of ../shared/LANGUAGE.md, rule by rule; run in the project's folder. */
public final class LanguageTest {
    private static final Path SOURCE = Path.of("src/main/java/SlidingBlocks.java");
    private static final List<String> IMPORTS = List.of("import java.util.Arrays;");
    private static final List<String> LIBRARY = List.of("Arrays.fill", "System.arraycopy", "Math.min", "Math.max",
        "Integer.bitCount");
    private static final String[] WORDS_LEFT_OUT = {"try", "catch", "finally", "throw", "throws", "synchronized", "assert",
        "instanceof", "equals", "hashCode", "toString", "package", "volatile", "transient", "native", "double", "String",
        "Object", "Thread", "Random", "var"};
    private static final int MOST_CLASSES = 12;
    private static final int MOST_FIELDS = 20;
    private static final int MOST_PARAMETERS = 7;
    private static final int MOST_LINES = 60;

    private LanguageTest() {
    }

    public static void main(String[] args) throws Exception {
        String source = Files.readString(SOURCE);
        String code = source.replaceAll("(?s)/\\*.*?\\*/", "").replaceAll("//[^\n]*", "");
        Check.due("signs beyond 126", source.chars().filter(c -> c > 126).count(), 0);
        signs(code);
        words(code);
        library(code);
        lengths(code);
        classes();
        Check.end();
    }

    /** Rules 2 to 4: no lambda, no method reference, no text. */
    private static void signs(String code) {
        for (String sign : new String[] {"->", "::", "\"", "@"}) {
            Check.due("rules 2 to 4: " + sign, code.contains(sign) ? 1 : 0, 0);
        }
    }

    /** Rules 3, 6 and 13: words that the class has no use for. */
    private static void words(String code) {
        for (String word : WORDS_LEFT_OUT) {
            Check.due("the word " + word, Pattern.compile("\\b" + word + "\\b").matcher(code).find() ? 1 : 0, 0);
        }
    }

    /** Rule 4: only what stands there of the library. */
    private static void library(String code) {
        List<String> imports = new ArrayList<>();
        Matcher lines = Pattern.compile("(?m)^import .*$").matcher(code);
        while (lines.find()) {
            imports.add(lines.group());
        }
        Check.due("rule 4: " + imports, imports.equals(IMPORTS) ? 1 : 0, 1);
        Matcher calls = Pattern.compile("\\b[A-Z][a-z]+\\.[a-z]\\w*").matcher(code.replaceAll("(?m)^import .*$", ""));
        while (calls.find()) {
            Check.due("rule 4: " + calls.group(), LIBRARY.contains(calls.group()) ? 1 : 0, 1);
        }
    }

    /** Rule 11: methods stay short. */
    private static void lengths(String code) {
        int start = 0;
        String[] lines = code.split("\n");
        for (int i = 0; i < lines.length; i++) {
            if (lines[i].matches(" {4,8}(?!if|for|while|switch|else|\\})\\S.*\\(.*\\) \\{")) {
                start = i;
            }
            if (lines[i].matches(" {4,8}\\}")) {
                Check.due("rule 11: lines before line " + i, i - start <= MOST_LINES ? 1 : 0, 1);
            }
        }
    }

    /** Rules 1, 2, 5 and 11: the classes inside, their fields and their methods. */
    private static void classes() {
        List<Class<?>> all = new ArrayList<>(Arrays.asList(SlidingBlocks.class.getDeclaredClasses()));
        for (Class<?> inside : all) {
            int set = inside.getModifiers();
            Check.due("rule 1: not public " + inside, Modifier.isPublic(set) || Modifier.isProtected(set) ? 1 : 0, 0);
            Check.due("rule 2: static " + inside, Modifier.isStatic(set) ? 1 : 0, 1);
        }
        all.add(SlidingBlocks.class);
        Check.due("rule 11: classes", all.size() <= MOST_CLASSES ? 1 : 0, 1);
        for (Class<?> each : all) {
            fields(each);
            methods(each);
        }
    }

    private static void fields(Class<?> each) {
        int own = 0;
        for (Field field : each.getDeclaredFields()) {
            int set = field.getModifiers();
            own += Modifier.isStatic(set) ? 0 : 1;
            boolean fine = !Modifier.isStatic(set) || Modifier.isFinal(set) && field.getType().isPrimitive();
            Check.due("rule 5: " + field, fine ? 1 : 0, 1);
        }
        Check.due("rule 11: fields of " + each, own <= MOST_FIELDS ? 1 : 0, 1);
    }

    private static void methods(Class<?> each) {
        List<String> face = new ArrayList<>();
        for (Method method : SlidingBlocks.class.getDeclaredMethods()) {
            if (Modifier.isPublic(method.getModifiers())) {
                face.add(method.getName());
            }
        }
        for (Method method : each.getDeclaredMethods()) {
            Check.due("rule 11: " + method, method.getParameterCount() <= MOST_PARAMETERS ? 1 : 0, 1);
            boolean isPublic = Modifier.isPublic(method.getModifiers());
            Check.due("rule 1: " + method, isPublic || !face.contains(method.getName()) ? 1 : 0, 1);
        }
    }
}
