import java.io.IOException;
import java.lang.reflect.Method;
import java.lang.reflect.Modifier;
import java.nio.file.Files;
import java.nio.file.Path;
import java.util.Arrays;
import java.util.HashMap;
import java.util.List;
import java.util.Map;
import java.util.Set;
import java.util.TreeSet;
import java.util.regex.Matcher;
import java.util.regex.Pattern;
import java.util.stream.Stream;

/** The examples of README.md: each call is told with its answer, which the class gives, and the plain model of the document too. */
public final class ReadmeTest {
    static final Pattern MAKING = Pattern.compile("CandleTurns (\\w+) = new CandleTurns\\(\\);");
    static final Pattern CALLING = Pattern.compile("(\\w+)\\.(\\w+)\\(([^)]*)\\);\\s+// (-?\\d+|[A-Z]+): \\S.*");

    final Due due = new Due();
    final Map<String, CandleTurns> objects = new HashMap<>();
    final Map<String, Plain> models = new HashMap<>();
    final Set<String> called = new TreeSet<>();

    public static void main(String[] args) throws Exception {
        new ReadmeTest().go(Files.readAllLines(Path.of("README.md")));
    }

    void go(List<String> lines) throws Exception {
        boolean isJava = false;
        for (String line : lines) {
            if (line.startsWith("```")) {
                isJava = line.equals("```java");
            } else if (isJava && !line.isBlank()) {
                makeLine(line);
            }
        }
        due.holds("an object is made", !objects.isEmpty());
        for (Method m : CandleTurns.class.getDeclaredMethods()) {
            if (Modifier.isPublic(m.getModifiers())) {
                due.holds(m.getName() + " has an example", called.contains(m.getName()));
            }
        }
        due.holds("how to run the tests", lines.contains(".ci/run"));
        testsAreTold(String.join("\n", lines));
        due.end();
    }

    void makeLine(String line) throws Exception {
        Matcher making = MAKING.matcher(line);
        if (making.matches()) {
            objects.put(making.group(1), new CandleTurns());
            models.put(making.group(1), new Plain());
            return;
        }
        Matcher calling = CALLING.matcher(line);
        boolean isCall = calling.matches();
        due.holds("'" + line + "' is a call with its answer", isCall);
        if (!isCall) {
            return;
        }
        boolean isMade = objects.containsKey(calling.group(1));
        due.holds("'" + line + "' is on an object that was made", isMade);
        if (isMade) {
            called.add(calling.group(2));
            Integer[] given = numbers(calling.group(3));
            int want = numberOf(calling.group(4));
            due.due(line, answer(objects.get(calling.group(1)), calling.group(2), given), want);
            due.due(line + " (by the plain model)", answer(models.get(calling.group(1)), calling.group(2), given), want);
        }
    }

    static int answer(Object on, String name, Integer[] given) throws Exception {
        Class<?>[] types = new Class<?>[given.length];
        Arrays.fill(types, int.class);
        return (int) on.getClass().getMethod(name, types).invoke(on, (Object[]) given);
    }

    static Integer[] numbers(String told) throws Exception {
        String[] words = told.isEmpty() ? new String[0] : told.split(", ");
        Integer[] all = new Integer[words.length];
        for (int i = 0; i < all.length; i++) {
            all[i] = numberOf(words[i]);
        }
        return all;
    }

    static int numberOf(String word) throws Exception {
        if (word.startsWith("0x")) {
            return Integer.parseUnsignedInt(word.substring(2), 16);
        }
        return word.matches("[A-Z]+") ? CandleTurns.class.getField(word).getInt(null) : Integer.parseInt(word);
    }

    void testsAreTold(String readme) throws IOException {
        try (Stream<Path> files = Files.list(Path.of("src/test/java"))) {
            files.map(file -> file.getFileName().toString()).filter(name -> name.endsWith("Test.java")).forEach(
                name -> due.holds("README.md tells of " + name, readme.contains("`" + name.replace(".java", "") + "`")));
        }
    }
}
