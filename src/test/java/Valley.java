/** Short ways for tests to bring an object into a state. */
final class Valley {
    static final int NONE = GoldTurnsBack.NONE, BAD = GoldTurnsBack.BAD, STATE = GoldTurnsBack.STATE,
            FULL = GoldTurnsBack.FULL;
    static final int NOTHING = -11, OUTSIDE = -12, OF_ANOTHER_SORT = -13, BELOW_ZERO = -14, NO_ANSWER = -100000;

    private Valley() {
    }

    static void feed(GoldTurnsBack x, String text) {
        for (int i = 0; i < text.length(); i++) {
            x.feed(text.charAt(i));
        }
    }

    static int text(GoldTurnsBack x, String text) {
        feed(x, text);
        return x.text();
    }

    /** A new object with this text as the rule. */
    static GoldTurnsBack ruled(String text) {
        GoldTurnsBack x = new GoldTurnsBack();
        x.force(text(x, text));
        return x;
    }

    /** A coin with all that can be laid on it. */
    static int coin(GoldTurnsBack x, int kind, int number, int value, int first, int age, int owner) {
        int c = x.coin(kind, number, value);
        x.set(3, c, first);
        x.set(4, c, age);
        x.set(5, c, owner);
        return c;
    }

    static void row(GoldTurnsBack x, int sheet, int sort, int... items) {
        x.sheet(sheet, sort, items.length);
        for (int i = 0; i < items.length; i++) {
            x.cell(sheet, i, items[i]);
        }
    }

    /** What a sheet of ints holds: found by a coin that tells just that item, since no call reads a cell. */
    static boolean rowIs(GoldTurnsBack x, int sheet, int... items) {
        for (int i = 0; i < items.length; i++) {
            if (!cellIs(x, sheet, i, items[i])) {
                return false;
            }
        }
        return x.cell(sheet, items.length, 0) == OUTSIDE;
    }

    /** Reads one cell by coins(): as a coin's value, with 0 and 0 ahead of it. */
    static boolean cellIs(GoldTurnsBack x, int sheet, int i, int v) {
        for (int sort = 0; sort <= 2; sort++) {
            x.sheet(3, sort, 3);
            if (x.copy(sheet, i, 3, 2, 1) == 1) {
                x.image();
                boolean same = x.coins(3, sort, 0, 1) == 1 && x.told(x.count(0) - 1, 2) == v;
                x.back();
                return same;
            }
        }
        return false;
    }
}
