import java.util.Random;

/** Draws texts: most are right, some have a token too many, too few or another one. */
final class RandomText {
    private static final String[] TOKENS = {"turns", "gives", "spoils", "or", "and", "not", "value", "first", "number",
        "age", "owner", "day", "(", ")", ";", "+", "-", "*", "<", "=", "0", "7", "99", "9999", "12345", "x", "#",
        "daz", "an", "\t", "Z"};
    private static final String[] JOINTS = {" or ", " and ", "<", "=", "+", "-", "*", "+", "-", "*", " < "};

    private RandomText() {
    }

    static String text(Random r) {
        String text;
        do {
            text = "turns " + e(r, r.nextInt(5)) + ";gives " + e(r, r.nextInt(5)) + ";spoils " + e(r, r.nextInt(4))
                    + ";";
        } while (text.length() > 160);
        int changes = r.nextInt(3) == 0 ? 1 + r.nextInt(2) : 0;
        for (int i = 0; i < changes; i++) {
            text = changed(r, text);
        }
        return text.length() > 160 ? text.substring(0, 160) : text;
    }

    private static String changed(Random r, String text) {
        int at = r.nextInt(text.length());
        String token = TOKENS[r.nextInt(TOKENS.length)];
        switch (r.nextInt(5)) {
            case 0:
                return text.substring(0, at) + text.substring(at + 1) + " ";
            case 1:
                return text.substring(0, at) + " ";
            case 2:
                return text.substring(0, at) + "\n" + text.substring(at);
            case 3:
                return text.substring(0, at) + token + text.substring(at);
            default:
                return text + " " + (r.nextInt(2) == 0 ? token : "");
        }
    }

    /** The grammar is not kept to strictly (a not behind a +, two < in a row): such texts have a FAULT then. */
    private static String e(Random r, int depth) {
        int pick = depth <= 0 ? 0 : r.nextInt(9);
        if (pick == 0) {
            return r.nextInt(2) == 0 ? PlainText.NAMES.get(r.nextInt(6)) : String.valueOf(r.nextInt(r.nextInt(9) == 0
                    ? 10000 : 30));
        }
        if (pick == 1) {
            return "-" + e(r, depth - 1);
        }
        if (pick == 2) {
            return (r.nextInt(3) == 0 ? "(not " : "not ") + e(r, depth - 1) + (r.nextInt(3) == 0 ? ")" : "");
        }
        if (pick < 5) {
            return "(" + e(r, depth - 1) + ")";
        }
        return e(r, depth - 1) + JOINTS[r.nextInt(JOINTS.length)] + e(r, depth - 1);
    }
}
