import java.io.IOException;
import java.lang.reflect.Field;
import java.lang.reflect.InvocationTargetException;
import java.lang.reflect.Method;
import java.lang.reflect.Modifier;
import java.nio.file.DirectoryStream;
import java.nio.file.Files;
import java.nio.file.Path;
import java.util.ArrayList;
import java.util.Comparator;
import java.util.List;
import java.util.Map;
import java.util.TreeMap;
import java.util.regex.Matcher;
import java.util.regex.Pattern;
import java.util.stream.Stream;

/** README.md: its calls must answer as it says, its commands must run, and it must name what there is. */
public final class ReadmeTest {
    private static final Path README = Path.of("README.md");
    private static final String NEW_OBJECT = "CalendarReplicas x = new CalendarReplicas();";
    /** A call, with what its answer is called and what README.md says that it is. */
    private static final Pattern CALL = Pattern.compile(
            "(?:(?:int|long) (\\w+) = )?x\\.(\\w+)\\(([^()]*)\\);\\s+// ('.'|-?\\d+|[A-Z_]+)(?::.*)?");

    public static void main(String[] args) throws IOException, ReflectiveOperationException, InterruptedException {
        String readme = Files.readString(README);
        List<String> answers = new ArrayList<>();
        for (String block : blocks(readme, "java")) {
            calls(block, answers);
        }
        Check.isTrue("there are calls, " + answers.size(), answers.size() > 30);
        whatNegativeAnswersMean(readme, answers);
        names(readme);
        namesOfTests(readme);
        commands(readme);
        Check.end();
    }

    private static List<String> blocks(String readme, String language) {
        List<String> blocks = new ArrayList<>();
        Matcher matcher = Pattern.compile("(?s)```" + language + "\n(.*?)```").matcher(readme);
        while (matcher.find()) {
            blocks.add(matcher.group(1));
        }
        return blocks;
    }

    // ---- the calls

    private static void calls(String block, List<String> answers) throws ReflectiveOperationException {
        CalendarReplicas x = null;
        Map<String, Long> values = new TreeMap<>();
        for (String line : block.split("\n")) {
            Matcher call = CALL.matcher(line);
            if (line.equals(NEW_OBJECT)) {
                x = new CalendarReplicas();
            } else if (x == null || !call.matches()) {
                Check.isTrue("README.md has a line that is no call: " + line, false);
            } else {
                long got = made(x, call.group(2), call.group(3), values);
                Check.due("README.md: " + line.replaceAll(" +//.*", ""), got, value(call.group(4), values));
                answers.add(call.group(2) + " " + got);
                if (call.group(1) != null) {
                    values.put(call.group(1), got);
                }
            }
        }
    }

    private static long made(CalendarReplicas x, String name, String list, Map<String, Long> values)
            throws ReflectiveOperationException {
        String[] words = list.isEmpty() ? new String[0] : list.split(", ");
        Object[] arguments = new Object[words.length];
        Class<?>[] types = new Class<?>[words.length];
        for (int i = 0; i < words.length; i++) {
            arguments[i] = (int) value(words[i], values);
            types[i] = int.class;
        }
        try {
            return ((Number) CalendarReplicas.class.getMethod(name, types).invoke(x, arguments)).longValue();
        } catch (InvocationTargetException thrown) {
            throw new IllegalStateException(name + " has thrown " + thrown.getCause(), thrown);
        }
    }

    /** A number, a character, the name of an answer, or a constant of the class. */
    private static long value(String word, Map<String, Long> values) throws ReflectiveOperationException {
        if (word.startsWith("'")) {
            return word.charAt(1);
        }
        if (word.matches("-?\\d+")) {
            return Long.parseLong(word);
        }
        return values.containsKey(word) ? values.get(word) : constant(word);
    }

    private static int constant(String name) throws ReflectiveOperationException {
        try {
            return CalendarReplicas.class.getField(name).getInt(null);
        } catch (NoSuchFieldException none) {
            Check.isTrue("README.md has a word that names nothing: " + name, false);
            return Integer.MIN_VALUE;
        }
    }

    // ---- what it says

    /** checksum() alone answers with other negative numbers than the constants; README.md must say so and show it. */
    private static void whatNegativeAnswersMean(String readme, List<String> answers)
            throws ReflectiveOperationException {
        for (String name : new String[] {"BAD_VALUE", "FULL", "NOT_POSSIBLE", "NONE"}) {
            Check.isTrue("README.md says what " + name + " is",
                    readme.contains("| `" + name + "` | " + constant(name) + " |"));
        }
        Check.isTrue("README.md does not say of every method what does not hold for checksum",
                !readme.contains("Every method answers with a number; the negative ones are"));
        Check.isTrue("README.md says of all methods but checksum what negative answers are",
                readme.contains("All methods but `checksum` answer with an int."));
        boolean negative = false;
        for (String answer : answers) {
            negative |= answer.startsWith("checksum -");
        }
        Check.isTrue("README.md shows a negative checksum", negative);
        for (Method method : CalendarReplicas.class.getDeclaredMethods()) {
            if (Modifier.isPublic(method.getModifiers())) {
                Class<?> type = method.getName().equals("checksum") ? long.class : int.class;
                Check.isTrue(method.getName() + " answers with " + type, method.getReturnType() == type);
            }
        }
    }

    private static void names(String readme) {
        for (Method method : CalendarReplicas.class.getDeclaredMethods()) {
            if (Modifier.isPublic(method.getModifiers())) {
                Check.isTrue("README.md names " + method.getName(), readme.contains("`" + method.getName() + "`"));
            }
        }
        for (Field field : CalendarReplicas.class.getFields()) {
            Check.isTrue("README.md names " + field.getName(), readme.contains("`" + field.getName() + "`"));
        }
        Check.isTrue("README.md says for how many calls an object may be used", readme.contains("512 calls"));
    }

    private static void namesOfTests(String readme) throws IOException {
        List<String> tests = new ArrayList<>();
        try (DirectoryStream<Path> files = Files.newDirectoryStream(Path.of("src/test/java"), "*Test.java")) {
            for (Path file : files) {
                tests.add(file.getFileName().toString().replace(".java", ""));
            }
        }
        for (String test : tests) {
            Check.isTrue("README.md names " + test, readme.contains("`" + test + "`"));
        }
        Matcher named = Pattern.compile("`(\\w+Test)`").matcher(readme);
        while (named.find()) {
            Check.isTrue("there is a test " + named.group(1), tests.contains(named.group(1)));
        }
    }

    // ---- the commands

    /**
     * The one that runs all tests would run this one again, so it is only looked at; and the one that runs a shared
     * test is left out where there is none of this name.
     */
    private static void commands(String readme) throws IOException, InterruptedException {
        List<String> blocks = blocks(readme, "sh");
        Check.due("how many blocks of commands", blocks.size(), 3);
        for (String block : blocks) {
            if (block.equals(".ci/run\n")) {
                Check.isTrue(".ci/run can be run", Files.isExecutable(Path.of(".ci/run")));
            } else if (isThere(block)) {
                run(block);
            }
        }
    }

    private static boolean isThere(String block) {
        Matcher shared = Pattern.compile("\\.\\./shared/tests/\\w+\\.java").matcher(block);
        return !shared.find() || Files.exists(Path.of(shared.group()));
    }

    private static void run(String block) throws IOException, InterruptedException {
        Path place = Files.createTempDirectory("readme");
        Path said = place.resolve("said.txt");
        ProcessBuilder builder = new ProcessBuilder("sh", "-e", "-c", block);
        builder.environment().put("TMPDIR", place.toString());
        builder.redirectErrorStream(true).redirectOutput(said.toFile());
        Check.due("the exit code of\n" + block, builder.start().waitFor(), 0);
        Check.isTrue("it says what came of it", Files.size(said) > 0);
        remove(place);
    }

    private static void remove(Path place) throws IOException {
        try (Stream<Path> files = Files.walk(place)) {
            for (Path file : files.sorted(Comparator.reverseOrder()).toList()) {
                Files.delete(file);
            }
        }
    }
}
