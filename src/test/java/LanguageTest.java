import java.io.IOException;
import java.lang.reflect.Field;
import java.lang.reflect.Method;
import java.lang.reflect.Modifier;
import java.nio.file.Files;
import java.nio.file.Path;
import java.util.ArrayList;
import java.util.List;
import java.util.Set;
import java.util.TreeSet;
import java.util.regex.Matcher;
import java.util.regex.Pattern;

/** What LANGUAGE.md rules out, as far as it can be seen from the words of the source and from the classes. */
public final class LanguageTest {
    private static final Path SOURCE = Path.of("src/main/java/CalendarReplicas.java");
    private static final List<String> FORBIDDEN_WORDS = List.of("package", "import", "throw", "throws", "try", "catch",
            "finally", "synchronized", "assert", "protected", "volatile", "transient", "native", "var", "Object",
            "hashCode", "compareTo", "Random", "Thread", "nanoTime", "currentTimeMillis");
    private static final Set<String> LIBRARY = Set.of("String", "StringBuilder", "Math.max", "Math.min",
            "Integer.bitCount", "Integer.numberOfTrailingZeros", "System.arraycopy");

    public static void main(String[] args) throws IOException {
        String source = Files.readString(SOURCE);
        Check.isTrue("all signs are 1 to 127", source.chars().allMatch(c -> c > 0 && c < 128));
        Check.due("source files", Files.list(SOURCE.getParent()).count(), 1);
        String code = withoutCommentsAndTexts(source);
        words(code);
        library(code);
        methodLengths(code);
        List<Class<?>> classes = new ArrayList<>(List.of(CalendarReplicas.class.getDeclaredClasses()));
        classes.add(CalendarReplicas.class);
        Check.isTrue(classes.size() + " classes are at most 12", classes.size() <= 12);
        classes.forEach(LanguageTest::members);
        Check.end();
    }

    private static String withoutCommentsAndTexts(String source) {
        String code = source.replaceAll("(?s)/\\*.*?\\*/", "").replaceAll("//[^\n]*", "");
        return code.replaceAll("\"[^\"\n]*\"", "\"\"").replaceAll("'[^'\n]+'", "'x'");
    }

    private static void words(String code) {
        Set<String> words = new TreeSet<>(List.of(code.split("\\W+")));
        words.retainAll(FORBIDDEN_WORDS);
        Check.isTrue("no forbidden words, but " + words, words.isEmpty());
        Check.isTrue("no lambda", !code.contains("->"));
        Check.isTrue("no method reference", !code.contains("::"));
        Check.isTrue("texts are not joined by +", !Pattern.compile("\"\"\\s*\\+|\\+\\s*\"\"").matcher(code).find());
        Check.isTrue("no static block", !Pattern.compile("\\bstatic\\s*\\{").matcher(code).find());
    }

    /** Words that begin with a capital and go on with a small letter name classes; ours are left out. */
    private static void library(String code) {
        Set<String> own = new TreeSet<>();
        Matcher classes = Pattern.compile("\\bclass (\\w+)").matcher(code);
        while (classes.find()) {
            own.add(classes.group(1));
        }
        Set<String> used = new TreeSet<>();
        Matcher names = Pattern.compile("(?<!\\w)([A-Z][a-z]\\w*)(\\.\\w+)?").matcher(code);
        while (names.find()) {
            if (!own.contains(names.group(1))) {
                used.add(names.group());
            }
        }
        used.removeAll(LIBRARY);
        Check.isTrue("nothing of the library but what is listed, not " + used, used.isEmpty());
    }

    /** A method begins and ends with a line of the same indentation, 4 or 8 spaces. */
    private static void methodLengths(String code) {
        String[] lines = code.split("\n");
        for (int i = 0; i < lines.length; i++) {
            if (lines[i].matches("( {4}| {8})\\S.*\\(.*\\) \\{") && !lines[i].matches(" +(if|for|while|switch)\\b.*")) {
                String end = lines[i].replaceAll("\\S.*", "}");
                int last = i;
                while (last < lines.length && !lines[last].equals(end)) {
                    last++;
                }
                Check.isTrue(lines[i].strip() + " has at most 60 lines", last - i < 60);
            }
        }
    }

    private static void members(Class<?> one) {
        int fields = 0;
        for (Field field : one.getDeclaredFields()) {
            if (Modifier.isStatic(field.getModifiers())) {
                Check.isTrue(field + " is final", Modifier.isFinal(field.getModifiers()));
            } else {
                fields++;
            }
        }
        Check.isTrue(one + " has at most 20 fields, " + fields, fields <= 20);
        for (Method method : one.getDeclaredMethods()) {
            Check.isTrue(method + " has at most 7 parameters", method.getParameterCount() <= 7);
        }
    }
}
