import java.io.IOException;
import java.lang.reflect.Method;
import java.nio.charset.StandardCharsets;
import java.nio.file.Files;
import java.nio.file.Path;
import java.util.HashMap;
import java.util.HashSet;
import java.util.List;
import java.util.Map;
import java.util.Set;
import java.util.regex.Matcher;
import java.util.regex.Pattern;
import java.util.stream.Stream;

/** README.md tells of every call, under the document's group, and its examples answer as they say. */
public final class ReadmeTest {
    private static final Due due = new Due();
    private static final Pattern FED = Pattern.compile("for \\(char c : \"([^\"]*)\"\\.toCharArray\\(\\)\\) \\{");
    private static final Pattern CALL = Pattern.compile("valley\\.(\\w+)\\(([-0-9, ]*)\\);\\s+// (-?\\d+): .*");
    /** What stands around a byte that is fed. */
    private static final Set<String> ROUND = Set.of("    valley.feed(c);", "}", "");

    private final Map<String, Method> methods = new HashMap<>();
    private final Set<String> called = new HashSet<>();
    private GoldTurnsBack valley;

    public static void main(String[] args) throws IOException, ReflectiveOperationException {
        String readme = Files.readString(Path.of("README.md"), StandardCharsets.UTF_8);
        theGroups(readme);
        new ReadmeTest().examples(readme);
        due.end();
    }

    private static void theGroups(String readme) {
        for (List<String> group : Document.groups()) {
            Matcher chapter = Pattern.compile("(?ms)^### " + group.get(0) + "$.*?(?=^##|\\z)").matcher(readme);
            boolean found = chapter.find();
            due.holds("README.md has " + group.get(0), found);
            for (String call : group.subList(1, group.size())) {
                due.holds(call + " stands under " + group.get(0), found && chapter.group().contains("| `" + call + "("));
            }
        }
    }

    private void examples(String readme) throws ReflectiveOperationException {
        for (Method m : GoldTurnsBack.class.getDeclaredMethods()) {
            methods.put(m.getName(), m);
        }
        Matcher block = Pattern.compile("(?s)```java\n(.*?)```").matcher(readme);
        while (block.find()) {
            for (String line : block.group(1).split("\n")) {
                example(line);
            }
        }
        for (List<String> group : Document.groups()) {
            for (String call : group.subList(1, group.size())) {
                due.holds("an example of " + call, called.contains(call));
            }
        }
    }

    private void example(String line) throws ReflectiveOperationException {
        Matcher fed = FED.matcher(line);
        Matcher call = CALL.matcher(line);
        if (line.equals("GoldTurnsBack valley = new GoldTurnsBack();")) {
            valley = new GoldTurnsBack();
        } else if (fed.matches()) {
            Valley.feed(valley, fed.group(1));
            called.add("feed");
        } else if (call.matches()) {
            called.add(call.group(1));
            Object[] with = Stream.of(call.group(2).split(", ")).filter(n -> !n.isEmpty()).map(Integer::valueOf).toArray();
            Number got = (Number) methods.get(call.group(1)).invoke(valley, with);
            due.is(line, got.longValue(), Long.parseLong(call.group(3)));
        } else {
            due.holds("an example that is understood: " + line, ROUND.contains(line));
        }
    }
}
