import java.util.ArrayDeque;
import java.util.ArrayList;
import java.util.Arrays;
import java.util.Deque;
import java.util.List;
import java.util.regex.Matcher;
import java.util.regex.Pattern;

/**
 * A text read in another way than the class reads it: its FAULT is found by going over the tokens with what may
 * stand next, its value by splitting at the loosest joint.
 */
final class PlainText {
    private static final Pattern TOKEN = Pattern.compile("[a-z]+|[0-9]+|[();+*<=-]|.", Pattern.DOTALL);
    static final List<String> NAMES = List.of("value", "first", "number", "age", "owner", "day");
    private static final List<String> KEYS = List.of("turns", "gives", "spoils");

    private final List<List<String>> parts = new ArrayList<>();

    /** The place of the FAULT, or -1. */
    static int fault(String text) {
        List<String> tokens = new ArrayList<>();
        List<Integer> places = new ArrayList<>();
        split(text, tokens, places);
        int at = 0;
        for (String key : KEYS) {
            if (at == tokens.size() || !tokens.get(at).equals(key)) {
                return places.get(at);
            }
            int end = endOfE(tokens, at + 1);
            if (end < 0) {
                return places.get(-end - 1);
            }
            at = end + 1;
        }
        return at == tokens.size() ? -1 : places.get(at);
    }

    /** The tokens without blanks; behind the last place stands the text's size. */
    private static void split(String text, List<String> tokens, List<Integer> places) {
        Matcher m = TOKEN.matcher(text);
        while (m.find()) {
            if (!m.group().equals(" ") && !m.group().equals("\n")) {
                tokens.add(m.group());
                places.add(m.start());
            }
        }
        places.add(text.length());
    }

    /** Where the ; stands behind an E that begins at from; -1 less the token that can't stand. */
    private static int endOfE(List<String> tokens, int from) {
        Deque<String> open = new ArrayDeque<>();
        Deque<Boolean> compared = new ArrayDeque<>();
        compared.push(false);
        // What the next token may be: n a NOT, o a ONE, j a joint behind a ONE.
        char next = 'n';
        for (int i = from; i < tokens.size(); i++) {
            String t = tokens.get(i);
            if (next != 'j') {
                boolean opens = t.equals("(") || t.equals("-") || t.equals("not") && next == 'n';
                if (opens && open.size() < 5) {
                    open.push(t);
                    next = t.equals("-") ? 'o' : 'n';
                    if (t.equals("(")) {
                        compared.push(false);
                    }
                } else if (t.matches("[0-9]{1,4}") || NAMES.contains(t)) {
                    close(open, "-");
                    next = 'j';
                } else {
                    return -1 - i;
                }
            } else if (t.equals("+") || t.equals("-") || t.equals("*")) {
                next = 'o';
            } else if ((t.equals("<") || t.equals("=")) && !compared.peek()) {
                compared.pop();
                compared.push(true);
                next = 'o';
            } else if (t.equals("and") || t.equals("or")) {
                close(open, "not");
                compared.pop();
                compared.push(false);
                next = 'n';
            } else if (t.equals(")") && open.contains("(")) {
                close(open, "not");
                open.pop();
                compared.pop();
                close(open, "-");
            } else if (t.equals(";") && !open.contains("(")) {
                return i;
            } else {
                return -1 - i;
            }
        }
        return -1 - tokens.size();
    }

    private static void close(Deque<String> open, String what) {
        while (!open.isEmpty() && open.peek().equals(what)) {
            open.pop();
        }
    }

    PlainText(String text) {
        List<String> tokens = new ArrayList<>();
        split(text, tokens, new ArrayList<>());
        for (String key : KEYS) {
            int end = tokens.indexOf(";");
            parts.add(tokens.subList(1, end));
            tokens = tokens.subList(end + 1, tokens.size());
        }
    }

    /** The E of a part, the names having these values. */
    int value(int part, int... named) {
        return value(parts.get(part), named);
    }

    private static int value(List<String> e, int[] named) {
        for (List<String> joints : List.of(List.of("or"), List.of("and"))) {
            int at = lastJoint(e, joints);
            if (at >= 0) {
                boolean left = value(e.subList(0, at), named) != 0;
                boolean right = value(e.subList(at + 1, e.size()), named) != 0;
                return (e.get(at).equals("or") ? left || right : left && right) ? 1 : 0;
            }
        }
        if (e.get(0).equals("not")) {
            return value(e.subList(1, e.size()), named) == 0 ? 1 : 0;
        }
        for (List<String> joints : List.of(List.of("<", "="), List.of("+", "-"), List.of("*"))) {
            int at = lastJoint(e, joints);
            if (at >= 0) {
                return joined(e.get(at), value(e.subList(0, at), named), value(e.subList(at + 1, e.size()), named));
            }
        }
        String t = e.get(0);
        if (t.equals("-")) {
            return -value(e.subList(1, e.size()), named);
        }
        if (t.equals("(")) {
            return value(e.subList(1, e.size() - 1), named);
        }
        return NAMES.contains(t) ? named[NAMES.indexOf(t)] : Integer.parseInt(t);
    }

    private static int joined(String joint, int a, int b) {
        switch (joint) {
            case "<":
                return a < b ? 1 : 0;
            case "=":
                return a == b ? 1 : 0;
            case "+":
                return a + b;
            case "-":
                return a - b;
            default:
                return a * b;
        }
    }

    /** The last of these joints outside of all brackets; a - behind a joint or at the start is none. */
    private static int lastJoint(List<String> e, List<String> joints) {
        int depth = 0;
        int found = -1;
        for (int i = 0; i < e.size(); i++) {
            String t = e.get(i);
            depth += t.equals("(") ? 1 : t.equals(")") ? -1 : 0;
            boolean behindOne = i > 0 && (e.get(i - 1).equals(")") || e.get(i - 1).matches("[0-9]+")
                    || NAMES.contains(e.get(i - 1)));
            if (depth == 0 && joints.contains(t) && behindOne) {
                found = i;
            }
        }
        return found;
    }

    @Override
    public String toString() {
        return Arrays.toString(parts.toArray());
    }
}
