import java.util.ArrayList;
import java.util.Comparator;
import java.util.List;
import java.util.function.IntPredicate;

/** The document once more, in the plainest way: what would be is tried on a copy of the whole valley. */
final class PlainValley {
    static final int NUMBER = 0, VALUE = 1, FIRST = 2, AGE = 3, OWNER = 4, KIND = 5;
    static final int NONE = -1, BAD = -2, STATE = -3, FULL = -4, NO_ANSWER = -100000;
    private static final int[][] BOUNDS = {{0, 9}, {1, 99}, {0, 9}, {0, 999}, {0, 3}};
    private static final int[] UNDER = {-1, 0, 0, 1, 2, 0};

    int day;
    int rule;
    List<int[]> coins = new ArrayList<>();
    List<PlainText> texts = new ArrayList<>();
    StringBuilder tape = new StringBuilder();
    /** Rows of Java's own sorts: byte[], short[], int[], or null. */
    Object[] sheets = new Object[4];
    PlainValley image;

    PlainValley() {
        texts.add(new PlainText("turns 7 ; gives first * 5 ; spoils 2 ;"));
    }

    PlainValley copy() {
        PlainValley v = new PlainValley();
        v.day = day;
        v.rule = rule;
        for (int[] c : coins) {
            v.coins.add(c.clone());
        }
        v.texts = texts;
        return v;
    }

    private PlainValley behind(int n) {
        PlainValley v = copy();
        for (int i = 0; i < n; i++) {
            v.pass();
        }
        return v;
    }

    private void pass() {
        day++;
        for (int[] c : coins) {
            c[AGE] = Math.min(999, c[AGE] + 1);
        }
    }

    private static int bound(int least, int v, int most) {
        return v < least ? least : v > most ? most : v;
    }

    private int e(int part, int[] c) {
        int v = texts.get(rule).value(part, c[VALUE], c[FIRST], c[NUMBER], c[AGE], c[OWNER], day);
        return part == 1 ? bound(-99, v, 99) : bound(0, v, 99);
    }

    private int turnsRaw(int kind, int[] c) {
        switch (kind) {
            case 0: return e(0, c);
            case 1: return turnsRaw(0, c) + c[NUMBER] / 2;
            case 2: return turnsRaw(0, c) / 2;
            case 3: return 2 * turnsRaw(1, c);
            case 4: return Math.min(3, turnsRaw(2, c));
            default: return 1000;
        }
    }

    private int givesRaw(int kind, int[] c) {
        switch (kind) {
            case 0: return e(1, c);
            case 1: return c[FIRST] == 0 ? 0 : givesRaw(0, c);
            case 2: return givesRaw(0, c) + 3;
            case 3: return givesRaw(1, c) + c[NUMBER] * c[FIRST];
            case 4: return 0 - givesRaw(2, c);
            default: return 0;
        }
    }

    private int goesOffRaw(int kind, int[] c) {
        switch (kind) {
            case 0: return e(2, c);
            case 1: return c[FIRST] > 6 ? 0 : goesOffRaw(0, c);
            case 2: return 2 * goesOffRaw(0, c);
            case 3: return goesOffRaw(1, c);
            case 4: return goesOffRaw(2, c);
            default: return 0;
        }
    }

    int turns(int[] c) {
        return bound(1, turnsRaw(c[KIND], c), 1000);
    }

    int gives(int[] c) {
        return bound(-999, givesRaw(c[KIND], c), 999);
    }

    int goesOff(int[] c) {
        return bound(0, goesOffRaw(c[KIND], c), 99);
    }

    boolean whole(int[] c) {
        return c[AGE] < turns(c);
    }

    int worth(int[] c) {
        if (whole(c)) {
            return c[VALUE];
        }
        return gives(c) < 0 ? gives(c) : Math.max(0, gives(c) - goesOff(c) * (c[AGE] - turns(c)));
    }

    private int bits(IntPredicate so, int from, int to) {
        int bits = 0;
        for (int i = from; i <= to; i++) {
            bits |= so.test(i) ? 1 << i : 0;
        }
        return bits;
    }

    private int purse(int owner) {
        return bits(i -> coins.get(i)[OWNER] == owner && whole(coins.get(i)), 0, coins.size() - 1);
    }

    private int rich(int owner) {
        return coins.stream().filter(c -> c[OWNER] == owner).mapToInt(this::worth).sum();
    }

    private int values(int set) {
        int sum = 0;
        for (int i = 0; i < coins.size(); i++) {
            sum += (set >> i & 1) * coins.get(i)[VALUE];
        }
        return sum;
    }

    private List<Integer> sets(int owner, IntPredicate so) {
        List<Integer> sets = new ArrayList<>();
        for (int set = 0; set < 256; set++) {
            if ((set | purse(owner)) == purse(owner) && so.test(set)) {
                sets.add(set);
            }
        }
        return sets;
    }

    private int exactOf(int owner, int price) {
        return sets(owner, s -> values(s) == price).stream()
                .min(Comparator.<Integer>comparingInt(Integer::bitCount).thenComparing(s -> s)).orElse(NONE);
    }

    private int overOf(int owner, int price) {
        return sets(owner, s -> values(s) >= price).stream()
                .min(Comparator.<Integer>comparingInt(this::values).thenComparing(Integer::bitCount)
                        .thenComparing(s -> s)).orElse(NONE);
    }

    private int richWithout(int owner, int set, int n) {
        PlainValley v = copy();
        for (int i = v.coins.size() - 1; i >= 0; i--) {
            if ((set >> i & 1) == 1) {
                v.coins.remove(i);
            }
        }
        return v.behind(n).rich(owner);
    }

    private static boolean in(int v, int least, int most) {
        return v >= least && v <= most;
    }

    private boolean no(int coin) {
        return !in(coin, 0, coins.size() - 1);
    }

    int set(int what, int of, int v) {
        if (what == 0 && in(v, 0, 999)) {
            int was = day;
            day = v;
            return was;
        }
        if (!in(what, 1, 5) || no(of) || !in(v, BOUNDS[what - 1][0], BOUNDS[what - 1][1])) {
            return BAD;
        }
        int was = coins.get(of)[what - 1];
        coins.get(of)[what - 1] = v;
        return was;
    }

    int coin(int kind, int number, int value) {
        if (!in(kind, 0, 5) || !in(number, 0, 9) || !in(value, 1, 99)) {
            return BAD;
        }
        if (coins.size() == 8) {
            return FULL;
        }
        coins.add(new int[] {number, value, 0, 0, 0, kind});
        return coins.size() - 1;
    }

    int told(int of, int what) {
        if (what == 0) {
            return day;
        }
        if (no(of) || !in(what, 1, 11)) {
            return NO_ANSWER;
        }
        int[] c = coins.get(of);
        int[] more = {turns(c), gives(c), goesOff(c), whole(c) ? 1 : 0, worth(c)};
        return what <= 6 ? c[what - 1] : more[what - 7];
    }

    int feed(int letter) {
        if (!in(letter, 0, 255)) {
            return BAD;
        }
        if (tape.length() == 160) {
            return FULL;
        }
        return tape.append((char) letter).length();
    }

    int text() {
        if (texts.size() == 6) {
            return FULL;
        }
        String text = tape.toString();
        tape.setLength(0);
        int fault = PlainText.fault(text);
        if (fault >= 0) {
            return -100 - fault;
        }
        texts.add(new PlainText(text));
        return texts.size() - 1;
    }

    int force(int text) {
        if (!in(text, 0, texts.size() - 1)) {
            return BAD;
        }
        int was = rule;
        rule = text;
        return was;
    }

    int day() {
        if (day == 999) {
            return STATE;
        }
        int before = bits(i -> whole(coins.get(i)), 0, coins.size() - 1);
        pass();
        return Integer.bitCount(before & bits(i -> !whole(coins.get(i)), 0, coins.size() - 1));
    }

    int pay(int coin, int owner) {
        if (no(coin) || !in(owner, 0, 3)) {
            return BAD;
        }
        int[] c = coins.get(coin);
        int was = c[OWNER];
        if (!whole(c) || was == owner) {
            return STATE;
        }
        c[OWNER] = owner;
        c[AGE] = 0;
        return was;
    }

    int buy(int owner, int other, int price) {
        if (!in(owner, 0, 3) || !in(other, 0, 3) || owner == other || !in(price, 0, 999)) {
            return BAD;
        }
        int set = exactOf(owner, price);
        if (set == NONE) {
            return STATE;
        }
        int paid = 0;
        for (int i = 0; i < coins.size(); i++) {
            paid += (set >> i & 1) == 1 && pay(i, other) == owner ? 1 : 0;
        }
        return paid;
    }

    int has(int owner, int what) {
        if (!in(owner, 0, 3)) {
            return NO_ANSWER;
        }
        switch (what) {
            case 0: return rich(owner);
            case 1: return purse(owner);
            case 2: return values(purse(owner));
            case 3: return bits(i -> coins.get(i)[OWNER] == owner && !whole(coins.get(i)), 0, coins.size() - 1);
            case 4: return coins.stream().filter(c -> c[OWNER] == owner && whole(c))
                    .min(Comparator.comparingInt(c -> turns(c) - c[AGE])).map(coins::indexOf).orElse(NONE);
            case 5:
                for (int n = 0; n <= 40; n++) {
                    if (behind(n).purse(owner) == 0) {
                        return n;
                    }
                }
                return NONE;
            case 6:
                List<Integer> worths = new ArrayList<>(coins.stream().filter(c -> c[OWNER] == owner)
                        .map(this::worth).sorted(Comparator.reverseOrder()).toList());
                return worths.subList(0, worths.size() / 2).stream().mapToInt(i -> i).sum();
            default: return NO_ANSWER;
        }
    }

    int run(int owner, int n, int what) {
        if (!in(owner, 0, 3) || !in(n, 0, 40) || !in(what, 0, 1)) {
            return NO_ANSWER;
        }
        PlainValley v = behind(n);
        return what == 0 ? v.rich(owner) : Integer.bitCount(v.purse(owner));
    }

    int exact(int owner, int price, int what) {
        if (!in(owner, 0, 3) || !in(price, 0, 999) || !in(what, 0, 3)) {
            return BAD;
        }
        int set = what < 2 ? exactOf(owner, price) : overOf(owner, price);
        return set == NONE || what == 0 || what == 2 ? set : what == 1 ? Integer.bitCount(set) : values(set);
    }

    int wise(int owner, int price, int n, int what) {
        if (!in(owner, 0, 3) || !in(price, 0, 999) || !in(n, 0, 40) || !in(what, 0, 1)) {
            return BAD;
        }
        int best = NONE;
        int most = NO_ANSWER;
        for (int set : sets(owner, s -> values(s) >= price)) {
            int then = richWithout(owner, set, n);
            if (then > most) {
                best = set;
                most = then;
            }
        }
        return what == 0 ? best : most;
    }

    int change(int owner, int other, int what) {
        if (!in(owner, 0, 3) || !in(other, 0, 3) || owner == other || !in(what, 0, 1)) {
            return NO_ANSWER;
        }
        int best = NONE;
        int most = behind(10).rich(owner) + behind(10).rich(other);
        for (int a = 0; a < coins.size(); a++) {
            for (int b = 0; b < coins.size(); b++) {
                PlainValley v = copy();
                if (v.coins.get(a)[OWNER] == owner && v.coins.get(b)[OWNER] == other
                        && v.pay(a, other) >= 0 && v.pay(b, owner) >= 0) {
                    v = v.behind(10);
                    if (v.rich(owner) + v.rich(other) > most) {
                        best = 10 * a + b;
                        most = v.rich(owner) + v.rich(other);
                    }
                }
            }
        }
        return what == 0 ? best : most;
    }

    private int size(Object row) {
        return row == null ? 0 : java.lang.reflect.Array.getLength(row);
    }

    private int item(Object row, int i) {
        return ((Number) java.lang.reflect.Array.get(row, i)).intValue();
    }

    private int otherwise(Object row, int coin) {
        PlainValley v = copy();
        for (int i = 0; i < size(row); i++) {
            if (v.worth(v.coins.get(coin)) != item(row, i)) {
                return i;
            }
            v.pass();
        }
        return NONE;
    }

    private boolean soWith(Object row, int coin, int part, int value) {
        PlainValley v = copy();
        v.coins.get(coin)[part] = value;
        return v.otherwise(row, coin) == NONE;
    }

    private boolean soBy(Object row, int coin, int text) {
        PlainValley v = copy();
        v.rule = text;
        return v.otherwise(row, coin) == NONE;
    }

    private int among(Object row, int coin, int part, int least, boolean many) {
        List<Integer> so = new ArrayList<>();
        for (int i = least; i <= 99; i++) {
            if (soWith(row, coin, part, i)) {
                so.add(i);
            }
        }
        return many ? so.size() : so.isEmpty() ? NONE : so.get(0);
    }

    int tells(int sheet, int coin, int what) {
        if (!in(sheet, 0, 3) || no(coin) || !in(what, 0, 9)) {
            return BAD;
        }
        Object row = sheets[sheet];
        if (row == null) {
            return -11;
        }
        switch (what) {
            case 0: return otherwise(row, coin);
            case 1: return bits(i -> soWith(row, coin, KIND, i), 0, 5);
            case 2: return bits(i -> soWith(row, coin, NUMBER, i), 0, 9);
            case 3: return bits(i -> soWith(row, coin, FIRST, i), 0, 9);
            case 4: return among(row, coin, AGE, 0, true);
            case 5: return among(row, coin, AGE, 0, false);
            case 6: return among(row, coin, VALUE, 1, true);
            case 7: return among(row, coin, VALUE, 1, false);
            case 8: return bits(i -> soBy(row, coin, i), 0, texts.size() - 1);
            default: return bits(i -> otherwise(row, i) == NONE, 0, coins.size() - 1);
        }
    }

    int film(int sheet, int coin, int n) {
        if (!in(sheet, 0, 3) || no(coin) || !in(n, 0, 40)) {
            return BAD;
        }
        int[] row = new int[n];
        for (int i = 0; i < n; i++) {
            PlainValley v = behind(i);
            row[i] = v.worth(v.coins.get(coin));
        }
        sheets[sheet] = row;
        return n;
    }

    private PlainValley drawnBy(int seed) {
        PlainValley v = copy();
        int z = seed;
        for (int[] c : v.coins) {
            z = z * 1103515245 + 12345;
            c[AGE] = (z >>> 9) % 15;
        }
        return v;
    }

    int drawn(int seed, int owner) {
        return in(owner, 0, 3) ? drawnBy(seed).rich(owner) : NO_ANSWER;
    }

    long chance(int seed, int m, int owner, int k, int part) {
        if (!in(m, 1, 20) || !in(owner, 0, 3) || !in(k, 0, 8) || !in(part, 0, 1)) {
            return GoldTurnsBack.NO;
        }
        int hits = 0;
        for (int i = 0; i < m; i++) {
            hits += Integer.bitCount(drawnBy(seed + i).purse(owner)) >= k ? 1 : 0;
        }
        int gcd = java.math.BigInteger.valueOf(hits).gcd(java.math.BigInteger.valueOf(m)).intValue();
        return (part == 0 ? hits : m) / gcd;
    }

    int image() {
        image = copy();
        return coins.size();
    }

    int back() {
        if (image == null) {
            return STATE;
        }
        PlainValley v = image.copy();
        day = v.day;
        rule = v.rule;
        coins = v.coins;
        return coins.size();
    }

    int count(int what) {
        int whole = (int) coins.stream().filter(this::whole).count();
        int[] counts = {coins.size(), whole, day, texts.size(), tape.length(), rule};
        return in(what, 0, 5) ? counts[what] : BAD;
    }

    int sheet(int sheet, int sort, int n) {
        if (!in(sheet, 0, 3) || !in(sort, -1, 2) || sort >= 0 && n > 40) {
            return BAD;
        }
        if (sort >= 0 && n < 0) {
            return -14;
        }
        sheets[sheet] = sort < 0 ? null : sort == 0 ? new byte[n] : sort == 1 ? new short[n] : new int[n];
        return 1;
    }

    int cell(int sheet, int i, int v) {
        if (!in(sheet, 0, 3)) {
            return BAD;
        }
        Object row = sheets[sheet];
        if (row == null) {
            return -11;
        }
        if (!in(i, 0, size(row) - 1)) {
            return -12;
        }
        if (row instanceof byte[] b) {
            b[i] = (byte) v;
        } else if (row instanceof short[] s) {
            s[i] = (short) v;
        } else if (row instanceof int[] r) {
            r[i] = v;
        }
        return 1;
    }

    /** By what the host's own machine throws, in a test the plainest way. */
    int copy(int sheet, int i, int other, int j, int n) {
        if (!in(sheet, 0, 3) || !in(other, 0, 3)) {
            return BAD;
        }
        try {
            System.arraycopy(sheets[sheet], i, sheets[other], j, n);
            return n;
        } catch (NullPointerException e) {
            return -11;
        } catch (ArrayStoreException e) {
            return -13;
        } catch (IndexOutOfBoundsException e) {
            return -12;
        }
    }

    int coins(int sheet, int sort, int from, int n) {
        if (!in(sheet, 0, 3) || !in(sort, 0, 2) || !in(n, 0, 8)) {
            return BAD;
        }
        Object row = sheets[sheet];
        Class<?>[] sorts = {byte[].class, short[].class, int[].class};
        if (row == null || !sorts[sort].isInstance(row)) {
            return row == null ? -11 : -13;
        }
        int came = 0;
        for (int k = 0; k < n; k++) {
            long at = from + 3L * k;
            if (at < 0 || at + 2 >= size(row)) {
                return -12;
            }
            came += coin(item(row, (int) at), item(row, (int) at + 1), item(row, (int) at + 2)) >= 0 ? 1 : 0;
        }
        return came;
    }

    int taken(int coin, int k) {
        if (!in(k, 0, 5)) {
            return BAD;
        }
        if (no(coin)) {
            return -11;
        }
        int kind = coins.get(coin)[KIND];
        boolean under = kind == k || UNDER[kind] == k || UNDER[kind] >= 0 && UNDER[UNDER[kind]] == k;
        return under ? coins.get(coin)[NUMBER] : -13;
    }
}
