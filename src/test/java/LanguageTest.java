import java.lang.reflect.Constructor;
import java.lang.reflect.Field;
import java.lang.reflect.Method;
import java.lang.reflect.Modifier;
import java.nio.file.Files;
import java.nio.file.Path;
import java.util.ArrayList;
import java.util.Arrays;
import java.util.List;
import java.util.regex.Matcher;
import java.util.regex.Pattern;

/** What can be looked at from outside of ../shared/LANGUAGE.md, rule by rule; run in the project's folder. */
public final class LanguageTest {
    private static final Path SOURCE = Path.of("src/main/java/SlidingBlocks.java");
    private static final List<String> IMPORTED = List.of("Arrays", "ArrayList", "List", "Iterator", "NoSuchElementException");
    private static final List<String> NOT_THERE = List.of("package", "finally", "synchronized", "assert", "volatile",
        "native", "hashCode", "Random", "Thread", "System.out", "System.in", "System.exit", "System.nanoTime",
        "System.currentTimeMillis", "NullPointerException", "ArrayIndexOutOfBoundsException", "ClassCastException",
        "NegativeArraySizeException", "ArrayStoreException", "Throwable", "Error");
    private static final List<Class<?>> CONSTANTS = List.of(int.class, long.class, boolean.class, char.class, String.class,
        int[].class, long[].class, char[].class, byte[].class);
    /** What the rule calls some twelve, some twenty and some sixty, and a few more. */
    private static final int MOST_CLASSES = 14;
    private static final int MOST_FIELDS = 23;
    private static final int MOST_LINES = 65;
    private static final int MOST_PARAMETERS = 7;

    private LanguageTest() {
    }

    public static void main(String[] args) throws Exception {
        String source = Files.readString(SOURCE);
        String code = source.replaceAll("(?s)/\\*.*?\\*/", "").replaceAll("//[^\n]*", "");
        words(code);
        imports(code);
        lengths(code);
        classes();
        Check.end();
    }

    /** Rules 2, 6 and 13: no method reference, and words that are not in the language that is left. */
    private static void words(String code) {
        Check.due("rule 2: method references", code.contains("::") ? 1 : 0, 0);
        for (String word : NOT_THERE) {
            boolean found = Pattern.compile("\\b" + Pattern.quote(word) + "\\b").matcher(code).find();
            Check.due("the word " + word, found ? 1 : 0, 0);
        }
        Check.due("rule 4: a function that throws", Pattern.compile("\\bMath\\.\\w+Exact\\b").matcher(code).find() ? 1 : 0, 0);
    }

    /** Rule 4: only what stands there of the library. */
    private static void imports(String code) {
        Matcher lines = Pattern.compile("(?m)^import (.*);$").matcher(code);
        while (lines.find()) {
            String name = lines.group(1);
            boolean known = name.startsWith("java.util.") && IMPORTED.contains(name.substring("java.util.".length()));
            Check.due("rule 4: " + name, known ? 1 : 0, 1);
        }
    }

    /** Rule 11: methods stay short. */
    private static void lengths(String code) {
        int start = 0;
        String[] lines = code.split("\n");
        for (int i = 0; i < lines.length; i++) {
            if (lines[i].matches(" {4,8}(?!if|for|while|switch|else|do|\\})\\S.*\\(.*\\) \\{")) {
                start = i;
            }
            if (lines[i].matches(" {4,8}\\}")) {
                Check.due("rule 11: lines before line " + i, i - start <= MOST_LINES ? 1 : 0, 1);
            }
        }
    }

    /** Rules 1, 2, 5 and 11: the classes inside, their fields and their methods. */
    private static void classes() {
        List<Class<?>> all = new ArrayList<>(Arrays.asList(SlidingBlocks.class.getDeclaredClasses()));
        for (Class<?> inside : all) {
            int set = inside.getModifiers();
            Check.due("rule 1: not public " + inside, Modifier.isPublic(set) || Modifier.isProtected(set) ? 1 : 0, 0);
            Check.due("rule 1: static " + inside, Modifier.isStatic(set) ? 1 : 0, 1);
        }
        all.add(SlidingBlocks.class);
        Check.due("rule 11: classes", all.size() <= MOST_CLASSES ? 1 : 0, 1);
        for (Class<?> each : all) {
            fields(each);
            methods(each);
        }
    }

    private static void fields(Class<?> each) {
        int own = 0;
        for (Field field : each.getDeclaredFields()) {
            int set = field.getModifiers();
            own += Modifier.isStatic(set) ? 0 : 1;
            boolean constant = Modifier.isFinal(set) && (each.isEnum() || CONSTANTS.contains(field.getType()));
            Check.due("rule 5: " + field, !Modifier.isStatic(set) || constant ? 1 : 0, 1);
        }
        Check.due("rule 11: fields of " + each, own <= MOST_FIELDS ? 1 : 0, 1);
    }

    private static void methods(Class<?> each) {
        List<String> face = new ArrayList<>();
        for (Method method : SlidingBlocks.class.getDeclaredMethods()) {
            if (Modifier.isPublic(method.getModifiers())) {
                face.add(method.getName());
            }
        }
        for (Method method : each.getDeclaredMethods()) {
            Check.due("rule 11: " + method, method.getParameterCount() <= MOST_PARAMETERS ? 1 : 0, 1);
            boolean hidden = Modifier.isPrivate(method.getModifiers());
            Check.due("rule 1: " + method, !hidden || !face.contains(method.getName()) ? 1 : 0, 1);
        }
        for (Constructor<?> constructor : each.getDeclaredConstructors()) {
            Check.due("rule 11: " + constructor, constructor.getParameterCount() <= MOST_PARAMETERS ? 1 : 0, 1);
        }
    }
}
