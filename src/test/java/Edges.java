/** Tests of single sentences of the document: each is looked up there, and told ahead of a wrong answer. */
abstract class Edges {
    static final int NONE = -1, BAD = -2, STATE = -3, FULL = -4;
    static final int NOTHING = -11, OUTSIDE = -12, OTHER_SORT = -13, BELOW_ZERO = -14, NO_ANSWER = -100000;
    static final long NO = -4611686018427387904L;
    static final int FAR = Integer.MAX_VALUE, FAR_BELOW = Integer.MIN_VALUE;
    static final int COIN = 0, DUCAT = 1, GROAT = 2, CROWN = 3, WAGE = 4, TRUE = 5;
    static final int TERMS = Document.TERMS;

    private final Due due;
    private final Document document;
    private String sentence = "";

    Edges(Due due, Document document) {
        this.due = due;
        this.document = document;
    }

    abstract void all();

    void test(int chapter, String words, Runnable test) {
        sentence = (chapter == TERMS ? "Terms" : "Promise " + chapter) + ", \"" + words + "\": ";
        due.holds(sentence + "it stands in the document", document.says(chapter, words));
        test.run();
    }

    void is(String call, long got, long want) {
        due.is(sentence + call, got, want);
    }

    void are(String call, long[] got, long... want) {
        due.are(sentence + call, got, want);
    }

    static GoldTurnsBack valley() {
        return new GoldTurnsBack();
    }

    /** A new object with a rule of these three Es. */
    static GoldTurnsBack ruled(String turns, String gives, String spoils) {
        return Valley.ruled("turns " + turns + ";gives " + gives + ";spoils " + spoils + ";");
    }

    static int text(GoldTurnsBack x, String text) {
        return Valley.text(x, text);
    }

    static int coin(GoldTurnsBack x, int kind, int number, int value, int first, int age, int owner) {
        return Valley.coin(x, kind, number, value, first, age, owner);
    }

    static GoldTurnsBack withValues(int... values) {
        GoldTurnsBack x = valley();
        for (int v : values) {
            x.coin(COIN, 0, v);
        }
        return x;
    }

    static void row(GoldTurnsBack x, int sheet, int sort, int... items) {
        Valley.row(x, sheet, sort, items);
    }

    static long[] answers(int n, java.util.function.IntToLongFunction call) {
        long[] answers = new long[n];
        for (int i = 0; i < n; i++) {
            answers[i] = call.applyAsLong(i);
        }
        return answers;
    }
}
