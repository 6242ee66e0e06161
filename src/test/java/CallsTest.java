import java.io.PrintWriter;
import java.io.StringWriter;
import java.util.ArrayList;
import java.util.HashSet;
import java.util.List;
import java.util.Map;
import java.util.Optional;
import java.util.Set;
import java.util.TreeMap;
import java.util.TreeSet;
import java.util.regex.Matcher;
import java.util.regex.Pattern;
import java.util.spi.ToolProvider;

/** Rules 4 and 11 of LANGUAGE.md as the compiled class shows them: what it calls, and how deep. */
public final class CallsTest {
    private static final Due due = new Due();
    private static final int MOST_DEEP = 8;
    private static final Set<String> LIBRARY = Set.of("java/lang/Object.<init>", "java/lang/String.length",
            "java/lang/String.charAt", "java/lang/Math.max", "java/lang/Math.min", "java/lang/Integer.bitCount",
            "java/lang/System.arraycopy", "java/util/Arrays.copyOf", "java/util/Arrays.fill");
    private static final Pattern CLASS = Pattern.compile("^(?:[a-z]+ )*class (\\S+) \\{");
    private static final Pattern METHOD = Pattern.compile("^  (?:\\S.* )?([\\w$]+)\\([^)]*\\);");
    private static final Pattern CALL = Pattern.compile("^ .*: invoke.*// (?:Interface)?Method (\\S+?):");

    private final Map<String, Set<String>> calls = new TreeMap<>();

    public static void main(String[] args) {
        // A kit without javap can't look; the source was looked at by FaceTest then.
        Optional<ToolProvider> javap = ToolProvider.findFirst("javap");
        if (javap.isPresent()) {
            CallsTest test = new CallsTest();
            test.read(listing(javap.get()));
            test.theLibrary();
            test.theDepth();
        }
        due.end();
    }

    private static String listing(ToolProvider javap) {
        List<String> with = new ArrayList<>(List.of("-c", "-p", "-cp", System.getProperty("java.class.path")));
        with.add(GoldTurnsBack.class.getName());
        for (Class<?> inside : GoldTurnsBack.class.getDeclaredClasses()) {
            with.add(inside.getName());
        }
        StringWriter out = new StringWriter();
        due.is("javap", javap.run(new PrintWriter(out), new PrintWriter(out), with.toArray(new String[0])), 0);
        return out.toString();
    }

    private void read(String listing) {
        String inside = "";
        String method = "";
        for (String line : listing.split("\\R")) {
            Matcher c = CLASS.matcher(line);
            Matcher m = METHOD.matcher(line);
            Matcher call = CALL.matcher(line);
            if (c.find()) {
                inside = c.group(1);
            } else if (m.find()) {
                method = inside + "." + (m.group(1).equals(inside) ? "<init>" : m.group(1));
                calls.computeIfAbsent(method, k -> new TreeSet<>());
            } else if (call.find()) {
                String called = call.group(1).replace("\"", "");
                calls.get(method).add(called.contains(".") ? called : inside + "." + called);
            }
        }
        due.holds("text() calls", calls.getOrDefault("GoldTurnsBack.text", Set.of()).contains("GoldTurnsBack$Tape.read"));
    }

    private void theLibrary() {
        for (Set<String> called : calls.values()) {
            for (String one : called) {
                due.holds(one + " is of the class or of the library that rule 4 leaves",
                        calls.containsKey(one) || LIBRARY.contains(one));
            }
        }
    }

    private void theDepth() {
        for (String method : calls.keySet()) {
            List<String> deepest = deepest(method, new HashSet<>());
            due.holds(deepest.size() + " deep: " + deepest, deepest.size() <= MOST_DEEP);
        }
    }

    /** The longest way down in which no method comes twice: what recursion adds does not count. */
    private List<String> deepest(String method, Set<String> open) {
        open.add(method);
        List<String> longest = List.of();
        for (String called : calls.getOrDefault(method, Set.of())) {
            List<String> way = open.contains(called) ? List.of() : deepest(called, open);
            longest = way.size() > longest.size() ? way : longest;
        }
        open.remove(method);
        List<String> all = new ArrayList<>(List.of(method));
        all.addAll(longest);
        return all;
    }
}
