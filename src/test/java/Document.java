import java.io.IOException;
import java.io.UncheckedIOException;
import java.nio.charset.StandardCharsets;
import java.nio.file.Files;
import java.nio.file.Path;
import java.util.ArrayList;
import java.util.BitSet;
import java.util.List;
import java.util.regex.Matcher;
import java.util.regex.Pattern;

/** The document's own words, and which of them no test has cited yet. */
final class Document {
    static final int TERMS = 0, LAST_PROMISE = 27;
    private static final Path PLACE = Path.of("../shared/DOC.md");

    private final String[] texts = new String[LAST_PROMISE + 1];
    private final BitSet[] cited = new BitSet[LAST_PROMISE + 1];

    Document() {
        for (String chapter : words().split("(?m)^## ")) {
            Matcher m = Pattern.compile("Promise (\\d+):.*").matcher(chapter.lines().findFirst().orElse(""));
            if (m.matches()) {
                texts[Integer.parseInt(m.group(1))] = plain(chapter.substring(m.end()));
            } else if (chapter.startsWith("Terms")) {
                texts[TERMS] = plain(chapter.substring("Terms".length()));
            }
        }
        for (int i = 0; i < cited.length; i++) {
            cited[i] = new BitSet();
        }
    }

    static String words() {
        try {
            return Files.readString(PLACE, StandardCharsets.UTF_8);
        } catch (IOException e) {
            throw new UncheckedIOException(e);
        }
    }

    /** The groups of calls by the names that the interface heads them by, in its order: a name, then its calls. */
    static List<List<String>> groups() {
        List<List<String>> groups = new ArrayList<>();
        Matcher m = Pattern.compile("(?m)^Ahead of the calls (.*) the interface says: ---- (.*)\\.$").matcher(words());
        while (m.find()) {
            List<String> group = new ArrayList<>(List.of(m.group(2)));
            group.addAll(List.of(m.group(1).replace("`", "").split(", ")));
            groups.add(group);
        }
        return groups;
    }

    /** Without the fences, the declaration that a promise begins with, and what the interface only heads calls by. */
    private static String plain(String chapter) {
        return chapter.replaceAll("(?m)^```.*$", " ").replaceAll("(?m)^`[^`]*`: ", " ")
                .replaceAll("(?m)^Ahead of the calls .*$", " ").replaceAll("==== \\d", " ")
                .replaceAll("\\s+", " ").trim();
    }

    /** Whether these words stand in the chapter of a promise, or in Terms. */
    boolean says(int chapter, String words) {
        String text = texts[chapter];
        int at = text.indexOf(words);
        boolean found = at >= 0;
        while (at >= 0) {
            cited[chapter].set(at, at + words.length());
            at = text.indexOf(words, at + 1);
        }
        return found;
    }

    List<String> uncited() {
        List<String> left = new ArrayList<>();
        for (int chapter = 0; chapter < texts.length; chapter++) {
            String text = texts[chapter];
            for (int at = 0; at < text.length(); at = cited[chapter].nextSetBit(at) < 0
                    ? text.length() : cited[chapter].nextSetBit(at)) {
                at = cited[chapter].nextClearBit(at);
                int end = cited[chapter].nextSetBit(at) < 0 ? text.length() : cited[chapter].nextSetBit(at);
                String words = text.substring(Math.min(at, text.length()), end);
                if (words.matches(".*[A-Za-z0-9].*")) {
                    left.add(chapter + ": " + words);
                }
            }
        }
        return left;
    }
}
