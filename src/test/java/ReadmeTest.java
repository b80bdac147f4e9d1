import java.io.IOException;
import java.lang.reflect.Method;
import java.nio.file.Files;
import java.nio.file.Path;
import java.util.HashMap;
import java.util.List;
import java.util.Map;
import java.util.Set;
import java.util.TreeSet;
import java.util.regex.Matcher;
import java.util.regex.Pattern;
import java.util.stream.Collectors;
import java.util.stream.Stream;

/** What README.md says holds: its example, its calls, its tests. Run from the project's folder. */
public final class ReadmeTest {
    private static final Due D = new Due("ReadmeTest");
    private static final Pattern EXAMPLE = Pattern.compile("(?s)```java\n(.*?)```");
    private static final Pattern LINE =
        Pattern.compile("(?:int (\\w+) = )?desk\\.(\\w+)\\(([^()]*)\\); +// (-?\\d+): .+");
    private static final Pattern CALL_ROW = Pattern.compile("(?m)^\\| `(\\w+)\\(([^()]*)\\)` \\|");
    private static final Pattern TEST_ROW = Pattern.compile("(?m)^\\| (\\w+Test) \\|");

    public static void main(String[] args) throws IOException {
        String text = Files.readString(Path.of("README.md"));
        example(text);
        calls(text);
        tests(text);
        D.end();
    }

    private static void example(String text) {
        Matcher block = EXAMPLE.matcher(text);
        if (!block.find()) {
            D.holds("there is an example", false);
            return;
        }
        List<String> lines = block.group(1).lines().toList();
        D.holds("the example starts with a new object",
            lines.get(0).equals("ParkDesk desk = new ParkDesk();"));
        Map<String, String> names = new HashMap<>();
        StringBuilder script = new StringBuilder();
        for (String line : lines.subList(1, lines.size())) {
            Matcher m = LINE.matcher(line);
            if (m.matches()) {
                script.append(scriptLine(m, names));
                names.put(String.valueOf(m.group(1)), m.group(4));
            } else {
                D.holds("a call with its answer: " + line, false);
            }
        }
        Script.play(D, "the example", script.toString());
    }

    private static String scriptLine(Matcher m, Map<String, String> names) {
        String numbers = Stream.of(m.group(3).split(", "))
            .map(word -> names.getOrDefault(word, word))
            .collect(Collectors.joining(" "));
        return m.group(2) + " " + numbers + " = " + m.group(4) + "\n";
    }

    private static void calls(String text) {
        Set<String> named = new TreeSet<>();
        Matcher m = CALL_ROW.matcher(text);
        while (m.find()) {
            named.add(m.group(1) + " of " + m.group(2).split(", ").length);
        }
        Set<String> there = new TreeSet<>();
        for (Method method : ParkDesk.class.getMethods()) {
            if (method.getDeclaringClass() == ParkDesk.class) {
                there.add(method.getName() + " of " + method.getParameterCount());
            }
        }
        D.holds("README names " + named + ", the class has " + there, named.equals(there));
    }

    private static void tests(String text) throws IOException {
        Set<String> named = new TreeSet<>();
        Matcher m = TEST_ROW.matcher(text);
        while (m.find()) {
            named.add(m.group(1));
        }
        Set<String> there = new TreeSet<>();
        try (Stream<Path> files = Files.list(Path.of("src/test/java"))) {
            files.map(file -> file.getFileName().toString())
                .filter(name -> name.endsWith("Test.java"))
                .forEach(name -> there.add(name.replace(".java", "")));
        }
        D.holds("README names " + named + ", there are " + there, named.equals(there));
    }
}
