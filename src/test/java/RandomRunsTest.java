import java.util.Random;

/** Runs of drawn calls, each answer held against that of PlainValley. The draws are the same each time. */
public final class RandomRunsTest {
    private static final Due due = new Due();
    private static final int RUNS = 400, CALLS = 140;
    /** An object's answers count up to its 512th call; one call may feed a whole tape. */
    private static final int MOST_ASKED = 512 - 162;
    private static final int[] EDGES = {-2, -1, 0, 1, 3, 4, 5, 6, 7, 8, 9, 10, 20, 21, 39, 40, 41, 99, 100, 255, 256,
        998, 999, 1000, Integer.MAX_VALUE, Integer.MIN_VALUE};

    private final Random random;
    private final GoldTurnsBack x = new GoldTurnsBack();
    private final PlainValley y = new PlainValley();
    private final String run;
    /** One number of so many is drawn from the edges. */
    private final int seldom;
    private int asked;

    private RandomRunsTest(int seed) {
        random = new Random(seed);
        run = "run " + seed + ": ";
        seldom = seed % 3 == 2 ? 4 : 40;
    }

    public static void main(String[] args) {
        for (int seed = 0; seed < RUNS; seed++) {
            RandomRunsTest r = new RandomRunsTest(seed);
            r.begin();
            for (int call = 0; call < CALLS && r.asked < MOST_ASKED; call++) {
                r.call();
            }
        }
        textsAlone();
        due.end();
    }

    /** Some coins and texts ahead, so that most calls have something to answer. */
    private void begin() {
        int coins = random.nextInt(9);
        for (int i = 0; i < coins; i++) {
            coinComes();
        }
        int texts = random.nextInt(4);
        for (int i = 0; i < texts; i++) {
            textComes();
        }
        force();
    }

    private int below(int n) {
        return random.nextInt(n);
    }

    /** A number of 0 .. most, now and then one that is none such. */
    private int upTo(int most) {
        return below(seldom) == 0 ? EDGES[below(EDGES.length)] : below(most + 1);
    }

    private int aCoin() {
        return upTo(Math.max(0, y.coins.size() - 1));
    }

    private void is(String call, long got, long want) {
        asked++;
        due.is(run + call, got, want);
    }

    private static String told(String name, int... with) {
        StringBuilder b = new StringBuilder(name).append('(');
        for (int i = 0; i < with.length; i++) {
            b.append(i == 0 ? "" : ", ").append(with[i]);
        }
        return b.append(')').toString();
    }

    private void coinComes() {
        int kind = upTo(5);
        int number = upTo(9);
        int value = 1 + upTo(below(2) == 0 ? 9 : 98);
        is(told("coin", kind, number, value), x.coin(kind, number, value), y.coin(kind, number, value));
        set(3, y.coins.size() - 1, upTo(9));
        set(4, y.coins.size() - 1, upTo(below(4) == 0 ? 999 : 12));
        set(5, y.coins.size() - 1, below(2) == 0 ? 0 : upTo(3));
    }

    private void set(int what, int of, int v) {
        is(told("set", what, of, v), x.set(what, of, v), y.set(what, of, v));
    }

    private void force() {
        int text = upTo(y.texts.size() - 1);
        is(told("force", text), x.force(text), y.force(text));
    }

    private void textComes() {
        String text = RandomText.text(random);
        for (char c : text.toCharArray()) {
            is(told("feed", c), x.feed(c), y.feed(c));
        }
        is("text() of '" + text + "'", x.text(), y.text());
    }

    /** Texts alone, many: their faults, and what they come to for a coin. */
    private static void textsAlone() {
        Random random = new Random(7);
        for (int i = 0; i < 15000; i++) {
            String text = RandomText.text(random);
            GoldTurnsBack x = new GoldTurnsBack();
            PlainValley y = new PlainValley();
            for (char c : text.toCharArray()) {
                x.feed(c);
                y.feed(c);
            }
            due.is("text() of '" + text + "'", x.text(), y.text());
            x.force(1);
            y.force(1);
            int[] with = {random.nextInt(1000), random.nextInt(10), 1 + random.nextInt(99), random.nextInt(10),
                random.nextInt(1000), random.nextInt(4)};
            x.coin(0, 0, 1);
            y.coin(0, 0, 1);
            for (int what = 0; what < 6; what++) {
                x.set(what, 0, with[what]);
                y.set(what, 0, with[what]);
            }
            for (int what = 7; what < 12; what++) {
                due.is("told(0, " + what + ") by '" + text + "'", x.told(0, what), y.told(0, what));
            }
        }
    }

    private void call() {
        int group = below(5);
        if (group == 0) {
            callOfCoins();
        } else if (group == 1) {
            callOfDays();
        } else if (group == 2) {
            callOfBest();
        } else if (group == 3) {
            callOfTold();
        } else {
            callOfHost();
        }
    }

    private void callOfCoins() {
        int pick = below(12);
        int c = aCoin();
        if (pick == 0) {
            coinComes();
        } else if (pick < 5) {
            int what = upTo(5);
            int[] most = {999, 9, 99, 9, 30, 3};
            set(what, c, upTo(what >= 0 && what < 6 ? most[what] : 9));
        } else if (pick < 8) {
            int what = upTo(11);
            is(told("told", c, what), x.told(c, what), y.told(c, what));
        } else if (pick == 8) {
            int letter = upTo(255);
            is(told("feed", letter), x.feed(letter), y.feed(letter));
        } else if (pick == 9 && below(4) == 0) {
            textComes();
        } else if (pick == 10) {
            force();
        } else {
            int what = upTo(5);
            is(told("count", what), x.count(what), y.count(what));
        }
    }

    private void callOfDays() {
        int o = upTo(3);
        int p = upTo(3);
        int c = aCoin();
        int pick = below(10);
        if (pick < 2) {
            is("day()", x.day(), y.day());
        } else if (pick < 4) {
            is(told("pay", c, o), x.pay(c, o), y.pay(c, o));
        } else if (pick < 6) {
            int price = upTo(60);
            is(told("buy", o, p, price), x.buy(o, p, price), y.buy(o, p, price));
        } else if (pick < 8) {
            int what = upTo(6);
            is(told("has", o, what), x.has(o, what), y.has(o, what));
        } else {
            int n = upTo(40);
            int what = upTo(1);
            is(told("run", o, n, what), x.run(o, n, what), y.run(o, n, what));
        }
    }

    private void callOfBest() {
        int o = below(2) == 0 ? 0 : upTo(3);
        int p = upTo(3);
        int price = upTo(below(3) == 0 ? 300 : 60);
        int pick = below(4);
        if (pick == 0) {
            int what = upTo(1);
            is(told("change", o, p, what), x.change(o, p, what), y.change(o, p, what));
        } else if (pick == 1 && below(3) == 0) {
            int n = upTo(40);
            int what = upTo(1);
            is(told("wise", o, price, n, what), x.wise(o, price, n, what), y.wise(o, price, n, what));
        } else {
            int what = upTo(3);
            is(told("exact", o, price, what), x.exact(o, price, what), y.exact(o, price, what));
        }
    }

    private void callOfTold() {
        int s = upTo(3);
        int c = aCoin();
        int o = upTo(3);
        int pick = below(12);
        if (pick < 4) {
            int what = upTo(9);
            is(told("tells", s, c, what), x.tells(s, c, what), y.tells(s, c, what));
        } else if (pick < 7) {
            int n = upTo(below(2) == 0 ? 3 : 40);
            is(told("film", s, c, n), x.film(s, c, n), y.film(s, c, n));
        } else if (pick < 9) {
            int seed = random.nextInt();
            is(told("drawn", seed, o), x.drawn(seed, o), y.drawn(seed, o));
        } else if (pick == 9) {
            int seed = random.nextInt();
            int m = 1 + upTo(19);
            int k = upTo(below(2) == 0 ? 3 : 8);
            int part = upTo(1);
            is(told("chance", seed, m, o, k, part), x.chance(seed, m, o, k, part), y.chance(seed, m, o, k, part));
        } else if (pick == 10 && below(3) == 0) {
            is("image()", x.image(), y.image());
        } else if (pick == 11 && below(2) == 0) {
            is("back()", x.back(), y.back());
        }
    }

    private void callOfHost() {
        int s = upTo(3);
        int pick = below(8);
        if (pick < 2) {
            int sort = upTo(3) - 1;
            int n = upTo(40);
            is(told("sheet", s, sort, n), x.sheet(s, sort, n), y.sheet(s, sort, n));
        } else if (pick < 5) {
            int i = upTo(12);
            int v = below(3) == 0 ? random.nextInt() : upTo(9);
            is(told("cell", s, i, v), x.cell(s, i, v), y.cell(s, i, v));
        } else if (pick == 5) {
            int[] w = {upTo(10), upTo(3), upTo(10), upTo(6)};
            is(told("copy", s, w[0], w[1], w[2], w[3]), x.copy(s, w[0], w[1], w[2], w[3]),
                    y.copy(s, w[0], w[1], w[2], w[3]));
        } else if (pick == 6) {
            int[] w = {upTo(2), upTo(20), upTo(8)};
            is(told("coins", s, w[0], w[1], w[2]), x.coins(s, w[0], w[1], w[2]), y.coins(s, w[0], w[1], w[2]));
        } else {
            int c = aCoin();
            int k = upTo(5);
            is(told("taken", c, k), x.taken(c, k), y.taken(c, k));
        }
    }
}
