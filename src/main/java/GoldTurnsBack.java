import java.util.Arrays;

/**
 * A valley in which a coin that isn't paid for some days becomes the thing it was first given for.
 * The document's promises say what each public method answers; README.md says how to use it.
 */
public final class GoldTurnsBack {
    public static final int NONE = -1, BAD = -2, STATE = -3, FULL = -4;
    public static final long NO = -4611686018427387904L;

    private static final int NOTHING = -11, OUTSIDE = -12, OF_ANOTHER_SORT = -13, BELOW_ZERO = -14;
    private static final int NO_ANSWER = -100000;

    private static final int MOST_COINS = 8, MOST_TEXTS = 6, MOST_SHEETS = 4, MOST_ITEMS = 40, MOST_BYTES = 160;
    private static final int MOST_DAY = 999, MOST_AGE = 999, MOST_OWNER = 3, MOST_PRICE = 999, MOST_DAYS = 40;
    private static final int MOST_TOLD_AGE = 99, CHANGE_DAYS = 10, MOST_SEEDS = 20, DRAWN_AGES = 15;
    private static final int ALL_SETS = 1 << MOST_COINS;

    private static final int COIN = 0, DUCAT = 1, GROAT = 2, CROWN = 3, WAGE = 4, TRUE = 5;
    private static final int[] UNDER = {NONE, COIN, COIN, DUCAT, GROAT, COIN};
    private static final int NEVER = 1000, MOST_WAGE_TURNS = 3, GROAT_MORE = 3, KEEPS_ABOVE = 6;

    /** What is set and told of a coin; the day stands with them, since the calls number it so. */
    private static final int THE_DAY = 0, NUMBER = 1, VALUE = 2, FIRST = 3, AGE = 4, OWNER = 5, KIND = 6;
    private static final int[] LEAST = {0, 0, 1, 0, 0, 0, COIN};
    private static final int[] MOST = {MOST_DAY, 9, 99, 9, MOST_AGE, MOST_OWNER, TRUE};

    private static final int BYTES = 0, SHORTS = 1, INTS = 2;

    private static final String FIRST_TEXT = "turns 7 ; gives first * 5 ; spoils 2 ;";

    private int today;
    private final Coin[] all = new Coin[MOST_COINS];
    private int coinCount;
    private final Tape tape = new Tape();
    private final Text[] texts = new Text[MOST_TEXTS];
    private int textCount;
    private int rule;
    private final Sheet[] sheets = new Sheet[MOST_SHEETS];
    private final Image kept = new Image();
    /** A coin as it would be; every call that needs one lays it anew. */
    private final Coin thought = new Coin();
    private final int[] worths = new int[MOST_COINS];

    public GoldTurnsBack() {
        for (int i = 0; i < all.length; i++) {
            all[i] = new Coin();
        }
        for (int i = 0; i < sheets.length; i++) {
            sheets[i] = new Sheet();
        }
        for (int i = 0; i < FIRST_TEXT.length(); i++) {
            tape.add(FIRST_TEXT.charAt(i));
        }
        tape.read();
        keepText();
    }

    // ---- coins

    public int set(int what, int of, int v) {
        if (!isBetween(what, THE_DAY, OWNER) || !isBetween(v, LEAST[what], MOST[what])) {
            return BAD;
        }
        if (what == THE_DAY) {
            int was = today;
            today = v;
            return was;
        }
        if (!isCoin(of)) {
            return BAD;
        }
        int was = all[of].part(what);
        all[of].lay(what, v);
        return was;
    }

    public int coin(int kind, int number, int value) {
        if (!isOf(KIND, kind) || !isOf(NUMBER, number) || !isOf(VALUE, value)) {
            return BAD;
        }
        if (coinCount >= all.length) {
            return FULL;
        }
        all[coinCount].come(kind, number, value);
        coinCount++;
        return coinCount - 1;
    }

    public int told(int of, int what) {
        if (what == THE_DAY) {
            return today;
        }
        if (!isCoin(of)) {
            return NO_ANSWER;
        }
        Coin c = all[of];
        switch (what) {
            case 7:
                return theRule().turnsOf(c, c.age, today);
            case 8:
                return theRule().givesOf(c, c.age, today);
            case 9:
                return theRule().goesOffOf(c, c.age, today);
            case 10:
                return isWholeBehind(c, 0) ? 1 : 0;
            case 11:
                return worthBehind(c, 0);
            default:
                return isBetween(what, NUMBER, KIND) ? c.part(what) : NO_ANSWER;
        }
    }

    // ---- texts

    public int feed(int letter) {
        if (!isBetween(letter, 0, 255)) {
            return BAD;
        }
        if (tape.size >= MOST_BYTES) {
            return FULL;
        }
        tape.add(letter);
        return tape.size;
    }

    public int text() {
        if (textCount >= texts.length) {
            return FULL;
        }
        int fault = tape.read();
        if (fault != NONE) {
            tape.size = 0;
            return -100 - fault;
        }
        keepText();
        return textCount - 1;
    }

    public int force(int text) {
        if (!isBetween(text, 0, textCount - 1)) {
            return BAD;
        }
        int was = rule;
        rule = text;
        return was;
    }

    // ---- days, payments

    public int day() {
        if (today >= MOST_DAY) {
            return STATE;
        }
        int turned = 0;
        for (int i = 0; i < coinCount; i++) {
            if (isWholeBehind(all[i], 0) && !isWholeBehind(all[i], 1)) {
                turned++;
            }
        }
        for (int i = 0; i < coinCount; i++) {
            all[i].age = all[i].ageBehind(1);
        }
        today++;
        return turned;
    }

    public int pay(int coin, int owner) {
        if (!isCoin(coin) || !isOf(OWNER, owner)) {
            return BAD;
        }
        int was = all[coin].owner;
        if (!isWholeBehind(all[coin], 0) || was == owner) {
            return STATE;
        }
        all[coin].goTo(owner);
        return was;
    }

    public int buy(int owner, int other, int price) {
        if (!areTwoOwners(owner, other) || !isBetween(price, 0, MOST_PRICE)) {
            return BAD;
        }
        int set = exactSet(owner, price);
        if (set == NONE) {
            return STATE;
        }
        for (int i = 0; i < coinCount; i++) {
            if (holds(set, i)) {
                all[i].goTo(other);
            }
        }
        return Integer.bitCount(set);
    }

    public int has(int owner, int what) {
        if (!isOf(OWNER, owner)) {
            return NO_ANSWER;
        }
        switch (what) {
            case 0:
                return richBehind(owner, 0);
            case 1:
                return purseBehind(owner, 0);
            case 2:
                return valuesOf(purseBehind(owner, 0));
            case 3:
                return coinsOf(owner) & ~purseBehind(owner, 0);
            case 4:
                return toSpend(owner);
            case 5:
                return goneBehind(owner);
            case 6:
                return taxOf(owner);
            default:
                return NO_ANSWER;
        }
    }

    public int run(int owner, int n, int what) {
        if (!isOf(OWNER, owner) || !isBetween(n, 0, MOST_DAYS) || !isBetween(what, 0, 1)) {
            return NO_ANSWER;
        }
        return what == 0 ? richBehind(owner, n) : Integer.bitCount(purseBehind(owner, n));
    }

    // ---- what would be best

    public int exact(int owner, int price, int what) {
        if (!isOf(OWNER, owner) || !isBetween(price, 0, MOST_PRICE) || !isBetween(what, 0, 3)) {
            return BAD;
        }
        int set = what < 2 ? exactSet(owner, price) : overSet(owner, price);
        if (set == NONE) {
            return NONE;
        }
        if (what == 1) {
            return Integer.bitCount(set);
        }
        return what == 3 ? valuesOf(set) : set;
    }

    public int wise(int owner, int price, int n, int what) {
        if (!isOf(OWNER, owner) || !isBetween(price, 0, MOST_PRICE) || !isBetween(n, 0, MOST_DAYS)
                || !isBetween(what, 0, 1)) {
            return BAD;
        }
        layWorths(owner, n);
        int set = wiseSet(owner, price);
        if (what == 0) {
            return set;
        }
        return set == NONE ? NO_ANSWER : worthsWithout(set);
    }

    public int change(int owner, int other, int what) {
        if (!areTwoOwners(owner, other) || !isBetween(what, 0, 1)) {
            return NO_ANSWER;
        }
        int pair = bestPair(owner, other);
        if (what == 0) {
            return pair;
        }
        int so = richBehind(owner, CHANGE_DAYS) + richBehind(other, CHANGE_DAYS);
        if (pair == NONE) {
            return so;
        }
        return so + gainIfPaid(pair / 10, other) + gainIfPaid(pair % 10, owner);
    }

    // ---- coins that were told

    public int tells(int sheet, int coin, int what) {
        if (!isSheet(sheet) || !isCoin(coin) || !isBetween(what, 0, 9)) {
            return BAD;
        }
        Sheet row = sheets[sheet];
        if (row.isMissing()) {
            return NOTHING;
        }
        Coin c = all[coin];
        switch (what) {
            case 0:
                return firstOtherwise(row, theRule(), c);
            case 1:
                return soBits(row, c, KIND);
            case 2:
                return soBits(row, c, NUMBER);
            case 3:
                return soBits(row, c, FIRST);
            case 4:
                return soCount(row, c, AGE, MOST_TOLD_AGE);
            case 5:
                return soLeast(row, c, AGE, MOST_TOLD_AGE);
            case 6:
                return soCount(row, c, VALUE, MOST[VALUE]);
            case 7:
                return soLeast(row, c, VALUE, MOST[VALUE]);
            case 8:
                return soTexts(row, c);
            default:
                return soCoins(row);
        }
    }

    public int film(int sheet, int coin, int n) {
        if (!isSheet(sheet) || !isCoin(coin) || !isBetween(n, 0, MOST_ITEMS)) {
            return BAD;
        }
        sheets[sheet].become(INTS, n);
        for (int i = 0; i < n; i++) {
            sheets[sheet].put(i, worthBehind(all[coin], i));
        }
        return n;
    }

    public int drawn(int seed, int owner) {
        if (!isOf(OWNER, owner)) {
            return NO_ANSWER;
        }
        int rich = 0;
        int z = seed;
        for (int i = 0; i < coinCount; i++) {
            z = nextDraw(z);
            if (all[i].owner == owner) {
                rich += theRule().worthOf(all[i], drawnAge(z), today);
            }
        }
        return rich;
    }

    public long chance(int seed, int m, int owner, int k, int part) {
        if (!isBetween(m, 1, MOST_SEEDS) || !isOf(OWNER, owner) || !isBetween(k, 0, MOST_COINS)
                || !isBetween(part, 0, 1)) {
            return NO;
        }
        int hits = 0;
        for (int i = 0; i < m; i++) {
            if (wholeWhenDrawn(seed + i, owner) >= k) {
                hits++;
            }
        }
        int divisor = commonDivisor(hits, m);
        return part == 0 ? hits / divisor : m / divisor;
    }

    public int image() {
        kept.isThere = true;
        kept.day = today;
        kept.rule = rule;
        kept.coinCount = coinCount;
        for (int i = 0; i < coinCount; i++) {
            kept.coins[i].become(all[i]);
        }
        return coinCount;
    }

    public int back() {
        if (!kept.isThere) {
            return STATE;
        }
        today = kept.day;
        rule = kept.rule;
        coinCount = kept.coinCount;
        for (int i = 0; i < coinCount; i++) {
            all[i].become(kept.coins[i]);
        }
        return coinCount;
    }

    public int count(int what) {
        switch (what) {
            case 0:
                return coinCount;
            case 1:
                return wholeCount();
            case 2:
                return today;
            case 3:
                return textCount;
            case 4:
                return tape.size;
            case 5:
                return rule;
            default:
                return BAD;
        }
    }

    // ---- the host

    public int sheet(int sheet, int sort, int n) {
        if (!isSheet(sheet) || !isBetween(sort, NONE, INTS)) {
            return BAD;
        }
        if (sort == NONE) {
            sheets[sheet].become(NONE, 0);
            return 1;
        }
        if (n > MOST_ITEMS) {
            return BAD;
        }
        if (n < 0) {
            return BELOW_ZERO;
        }
        sheets[sheet].become(sort, n);
        return 1;
    }

    public int cell(int sheet, int i, int v) {
        if (!isSheet(sheet)) {
            return BAD;
        }
        Sheet row = sheets[sheet];
        if (row.isMissing()) {
            return NOTHING;
        }
        if (!isBetween(i, 0, row.size - 1)) {
            return OUTSIDE;
        }
        row.put(i, v);
        return 1;
    }

    public int copy(int sheet, int i, int other, int j, int n) {
        if (!isSheet(sheet) || !isSheet(other)) {
            return BAD;
        }
        Sheet from = sheets[sheet];
        Sheet to = sheets[other];
        if (from.isMissing() || to.isMissing()) {
            return NOTHING;
        }
        if (from.sort != to.sort) {
            return OF_ANOTHER_SORT;
        }
        if (!from.hasRoom(i, n) || !to.hasRoom(j, n)) {
            return OUTSIDE;
        }
        System.arraycopy(from.items, i, to.items, j, n);
        return n;
    }

    public int coins(int sheet, int sort, int from, int n) {
        if (!isSheet(sheet) || !isBetween(sort, BYTES, INTS) || !isBetween(n, 0, MOST_COINS)) {
            return BAD;
        }
        Sheet row = sheets[sheet];
        // A missing row may be taken for one of any sort, as null may be cast: so -11 comes behind -13.
        if (!row.isMissing() && row.sort != sort) {
            return OF_ANOTHER_SORT;
        }
        if (row.isMissing()) {
            return NOTHING;
        }
        int came = 0;
        int at = from;
        for (int k = 0; k < n; k++) {
            if (!row.hasRoom(at, 3)) {
                return OUTSIDE;
            }
            if (coin(row.items[at], row.items[at + 1], row.items[at + 2]) >= 0) {
                came++;
            }
            at += 3;
        }
        return came;
    }

    public int taken(int coin, int k) {
        if (!isOf(KIND, k)) {
            return BAD;
        }
        if (!isCoin(coin)) {
            return NOTHING;
        }
        return isUnder(all[coin].kind, k) ? all[coin].number : OF_ANOTHER_SORT;
    }

    // ---- what is such

    private static boolean isBetween(int v, int least, int most) {
        return v >= least && v <= most;
    }

    private static boolean isOf(int what, int v) {
        return v >= LEAST[what] && v <= MOST[what];
    }

    private boolean isCoin(int coin) {
        return coin >= 0 && coin < coinCount;
    }

    private static boolean isSheet(int sheet) {
        return sheet >= 0 && sheet < MOST_SHEETS;
    }

    private static boolean areTwoOwners(int owner, int other) {
        return isOf(OWNER, owner) && isOf(OWNER, other) && owner != other;
    }

    private static boolean holds(int set, int i) {
        return (set >> i & 1) == 1;
    }

    private static boolean isUnder(int kind, int k) {
        int at = kind;
        for (int step = 0; step < UNDER.length && at != NONE; step++) {
            if (at == k) {
                return true;
            }
            at = UNDER[at];
        }
        return false;
    }

    // ---- what coins are, by the rule

    private Text theRule() {
        return texts[rule];
    }

    private void keepText() {
        if (textCount < texts.length) {
            texts[textCount] = tape.newText();
            textCount++;
        }
        tape.size = 0;
    }

    private boolean isWholeBehind(Coin c, int n) {
        int age = c.ageBehind(n);
        return age < theRule().turnsOf(c, age, today + n);
    }

    private int worthBehind(Coin c, int n) {
        return theRule().worthOf(c, c.ageBehind(n), today + n);
    }

    private int wholeCount() {
        int whole = 0;
        for (int i = 0; i < coinCount; i++) {
            if (isWholeBehind(all[i], 0)) {
                whole++;
            }
        }
        return whole;
    }

    // ---- what one has

    private int coinsOf(int owner) {
        int set = 0;
        for (int i = 0; i < coinCount; i++) {
            if (all[i].owner == owner) {
                set |= 1 << i;
            }
        }
        return set;
    }

    private int purseBehind(int owner, int n) {
        int set = 0;
        for (int i = 0; i < coinCount; i++) {
            if (all[i].owner == owner && isWholeBehind(all[i], n)) {
                set |= 1 << i;
            }
        }
        return set;
    }

    private int richBehind(int owner, int n) {
        int rich = 0;
        for (int i = 0; i < coinCount; i++) {
            if (all[i].owner == owner) {
                rich += worthBehind(all[i], n);
            }
        }
        return rich;
    }

    private int valuesOf(int set) {
        int sum = 0;
        for (int i = 0; i < coinCount; i++) {
            if (holds(set, i)) {
                sum += all[i].value;
            }
        }
        return sum;
    }

    private int toSpend(int owner) {
        int purse = purseBehind(owner, 0);
        int best = NONE;
        int nearest = 0;
        for (int i = 0; i < coinCount; i++) {
            if (holds(purse, i)) {
                int left = theRule().turnsOf(all[i], all[i].age, today) - all[i].age;
                if (best == NONE || left < nearest) {
                    best = i;
                    nearest = left;
                }
            }
        }
        return best;
    }

    private int goneBehind(int owner) {
        for (int n = 0; n <= MOST_DAYS; n++) {
            if (purseBehind(owner, n) == 0) {
                return n;
            }
        }
        return NONE;
    }

    private int taxOf(int owner) {
        layWorths(owner, 0);
        int left = coinsOf(owner);
        int half = Integer.bitCount(left) / 2;
        int tax = 0;
        for (int taken = 0; taken < half; taken++) {
            int most = mostWorth(left);
            if (most != NONE) {
                tax += worths[most];
                left &= ~(1 << most);
            }
        }
        return tax;
    }

    private int mostWorth(int set) {
        int most = NONE;
        for (int i = 0; i < coinCount; i++) {
            if (holds(set, i) && (most == NONE || worths[i] > worths[most])) {
                most = i;
            }
        }
        return most;
    }

    /** Lays what each of one's coins is worth behind n days; 0 for coins of others. */
    private void layWorths(int owner, int n) {
        for (int i = 0; i < coinCount; i++) {
            worths[i] = all[i].owner == owner ? worthBehind(all[i], n) : 0;
        }
    }

    private int worthsWithout(int set) {
        int sum = 0;
        for (int i = 0; i < coinCount; i++) {
            if (!holds(set, i)) {
                sum += worths[i];
            }
        }
        return sum;
    }

    // ---- sets of a purse; they come in the order of their bits, so the first of like ones is the least

    private int exactSet(int owner, int price) {
        int purse = purseBehind(owner, 0);
        int best = NONE;
        for (int set = 0; set < ALL_SETS; set++) {
            if ((set & ~purse) == 0 && valuesOf(set) == price
                    && (best == NONE || Integer.bitCount(set) < Integer.bitCount(best))) {
                best = set;
            }
        }
        return best;
    }

    private int overSet(int owner, int price) {
        int purse = purseBehind(owner, 0);
        int best = NONE;
        int least = 0;
        for (int set = 0; set < ALL_SETS; set++) {
            if ((set & ~purse) == 0) {
                int sum = valuesOf(set);
                boolean isLess = best == NONE || sum < least
                        || sum == least && Integer.bitCount(set) < Integer.bitCount(best);
                if (sum >= price && isLess) {
                    best = set;
                    least = sum;
                }
            }
        }
        return best;
    }

    /** By the worths that were laid. */
    private int wiseSet(int owner, int price) {
        int purse = purseBehind(owner, 0);
        int best = NONE;
        int richest = 0;
        for (int set = 0; set < ALL_SETS; set++) {
            if ((set & ~purse) == 0 && valuesOf(set) >= price) {
                int rich = worthsWithout(set);
                if (best == NONE || rich > richest) {
                    best = set;
                    richest = rich;
                }
            }
        }
        return best;
    }

    // ---- changes

    private int bestPair(int owner, int other) {
        int ones = purseBehind(owner, 0);
        int others = purseBehind(other, 0);
        int best = NONE;
        int most = 0;
        for (int i = 0; i < coinCount; i++) {
            for (int j = 0; j < coinCount; j++) {
                if (holds(ones, i) && holds(others, j)) {
                    int gain = gainIfPaid(i, other) + gainIfPaid(j, owner);
                    if (gain > most) {
                        best = 10 * i + j;
                        most = gain;
                    }
                }
            }
        }
        return best;
    }

    /** A coin's worth stands on that coin alone, so what a change brings is what its two coins gain. */
    private int gainIfPaid(int coin, int to) {
        if (!isCoin(coin)) {
            return 0;
        }
        Coin c = all[coin];
        thought.become(c);
        thought.goTo(to);
        int then = today + CHANGE_DAYS;
        return theRule().worthOf(thought, thought.ageBehind(CHANGE_DAYS), then)
                - theRule().worthOf(c, c.ageBehind(CHANGE_DAYS), then);
    }

    // ---- what was told, read back

    private int firstOtherwise(Sheet row, Text text, Coin c) {
        for (int i = 0; i < row.size; i++) {
            if (text.worthOf(c, c.ageBehind(i), today + i) != row.items[i]) {
                return i;
            }
        }
        return NONE;
    }

    private boolean wouldBeSo(Sheet row, Coin c, int part, int v) {
        thought.become(c);
        thought.lay(part, v);
        return firstOtherwise(row, theRule(), thought) == NONE;
    }

    private int soBits(Sheet row, Coin c, int part) {
        int bits = 0;
        for (int v = LEAST[part]; v <= MOST[part]; v++) {
            if (wouldBeSo(row, c, part, v)) {
                bits |= 1 << v;
            }
        }
        return bits;
    }

    private int soCount(Sheet row, Coin c, int part, int most) {
        int found = 0;
        for (int v = LEAST[part]; v <= most; v++) {
            if (wouldBeSo(row, c, part, v)) {
                found++;
            }
        }
        return found;
    }

    private int soLeast(Sheet row, Coin c, int part, int most) {
        for (int v = LEAST[part]; v <= most; v++) {
            if (wouldBeSo(row, c, part, v)) {
                return v;
            }
        }
        return NONE;
    }

    private int soTexts(Sheet row, Coin c) {
        int bits = 0;
        for (int t = 0; t < textCount; t++) {
            if (firstOtherwise(row, texts[t], c) == NONE) {
                bits |= 1 << t;
            }
        }
        return bits;
    }

    private int soCoins(Sheet row) {
        int bits = 0;
        for (int i = 0; i < coinCount; i++) {
            if (firstOtherwise(row, theRule(), all[i]) == NONE) {
                bits |= 1 << i;
            }
        }
        return bits;
    }

    // ---- ages that are drawn

    private static int nextDraw(int z) {
        return z * 1103515245 + 12345;
    }

    private static int drawnAge(int z) {
        return (z >>> 9) % DRAWN_AGES;
    }

    private int wholeWhenDrawn(int seed, int owner) {
        int whole = 0;
        int z = seed;
        for (int i = 0; i < coinCount; i++) {
            z = nextDraw(z);
            int age = drawnAge(z);
            if (all[i].owner == owner && age < theRule().turnsOf(all[i], age, today)) {
                whole++;
            }
        }
        return whole;
    }

    /** The greatest that divides both; most is at least 1. */
    private static int commonDivisor(int v, int most) {
        for (int d = most; d > 1; d--) {
            if (v % d == 0 && most % d == 0) {
                return d;
            }
        }
        return 1;
    }

    /** A coin, as it is or as it would be. */
    private static final class Coin {
        int kind;
        int number;
        int value;
        int first;
        int age;
        int owner;

        void come(int ofKind, int ofNumber, int ofValue) {
            kind = ofKind;
            number = ofNumber;
            value = ofValue;
            first = 0;
            age = 0;
            owner = 0;
        }

        void become(Coin c) {
            kind = c.kind;
            number = c.number;
            value = c.value;
            first = c.first;
            age = c.age;
            owner = c.owner;
        }

        void goTo(int to) {
            owner = to;
            age = 0;
        }

        int ageBehind(int n) {
            return Math.min(MOST_AGE, age + n);
        }

        int part(int what) {
            switch (what) {
                case NUMBER:
                    return number;
                case VALUE:
                    return value;
                case FIRST:
                    return first;
                case AGE:
                    return age;
                case OWNER:
                    return owner;
                default:
                    return kind;
            }
        }

        void lay(int what, int v) {
            switch (what) {
                case NUMBER:
                    number = v;
                    break;
                case VALUE:
                    value = v;
                    break;
                case FIRST:
                    first = v;
                    break;
                case AGE:
                    age = v;
                    break;
                case OWNER:
                    owner = v;
                    break;
                default:
                    kind = v;
                    break;
            }
        }
    }

    /**
     * A text that was read, as steps for a stack: a number stands for itself, a name or a joint for what
     * Tape calls it. The age is handed over beside the coin, since it may be one that is only thought of.
     */
    private static final class Text {
        private final int[] steps;
        private final int[] ends;
        private final int[] stack;

        Text(int[] steps, int[] ends) {
            this.steps = steps;
            this.ends = ends;
            this.stack = new int[steps.length];
        }

        int worthOf(Coin c, int age, int day) {
            int turns = turnsOf(c, age, day);
            if (age < turns) {
                return c.value;
            }
            int gives = givesOf(c, age, day);
            if (gives < 0) {
                return gives;
            }
            return Math.max(0, gives - goesOffOf(c, age, day) * (age - turns));
        }

        int turnsOf(Coin c, int age, int day) {
            if (c.kind == TRUE) {
                return NEVER;
            }
            int v = bounded(worked(0, c, age, day), 0, 99);
            switch (c.kind) {
                case DUCAT:
                    return bounded(v + c.number / 2, 1, NEVER);
                case GROAT:
                    return bounded(v / 2, 1, NEVER);
                case CROWN:
                    return bounded(2 * (v + c.number / 2), 1, NEVER);
                case WAGE:
                    return bounded(Math.min(v / 2, MOST_WAGE_TURNS), 1, NEVER);
                default:
                    return bounded(v, 1, NEVER);
            }
        }

        int givesOf(Coin c, int age, int day) {
            if (c.kind == TRUE) {
                return 0;
            }
            int v = bounded(worked(1, c, age, day), -99, 99);
            int ofDucat = c.first == 0 ? 0 : v;
            switch (c.kind) {
                case DUCAT:
                    return bounded(ofDucat, -999, 999);
                case GROAT:
                    return bounded(v + GROAT_MORE, -999, 999);
                case CROWN:
                    return bounded(ofDucat + c.number * c.first, -999, 999);
                case WAGE:
                    return bounded(-(v + GROAT_MORE), -999, 999);
                default:
                    return bounded(v, -999, 999);
            }
        }

        int goesOffOf(Coin c, int age, int day) {
            if (c.kind == TRUE) {
                return 0;
            }
            int v = bounded(worked(2, c, age, day), 0, 99);
            switch (c.kind) {
                case DUCAT:
                case CROWN:
                    return c.first > KEEPS_ABOVE ? 0 : v;
                case GROAT:
                case WAGE:
                    return bounded(2 * v, 0, 99);
                default:
                    return v;
            }
        }

        private static int bounded(int v, int least, int most) {
            return Math.max(least, Math.min(most, v));
        }

        /** What the E of a part (0 turns, 1 gives, 2 spoils) comes to. */
        private int worked(int part, Coin c, int age, int day) {
            int top = 0;
            for (int i = part == 0 ? 0 : ends[part - 1]; i < ends[part]; i++) {
                int step = steps[i];
                if (step >= Tape.DAY_NAME && top < stack.length) {
                    stack[top] = step >= 0 ? step : named(step, c, age, day);
                    top++;
                } else if (step == Tape.NOT && top > 0) {
                    stack[top - 1] = stack[top - 1] == 0 ? 1 : 0;
                } else if (step == Tape.NEGATED && top > 0) {
                    stack[top - 1] = -stack[top - 1];
                } else if (top > 1) {
                    top--;
                    stack[top - 1] = joined(step, stack[top - 1], stack[top]);
                }
            }
            return top > 0 ? stack[top - 1] : 0;
        }

        private static int named(int name, Coin c, int age, int day) {
            switch (name) {
                case Tape.VALUE_NAME:
                    return c.value;
                case Tape.FIRST_NAME:
                    return c.first;
                case Tape.NUMBER_NAME:
                    return c.number;
                case Tape.AGE_NAME:
                    return age;
                case Tape.OWNER_NAME:
                    return c.owner;
                default:
                    return day;
            }
        }

        private static int joined(int joint, int a, int b) {
            switch (joint) {
                case Tape.OR:
                    return a != 0 || b != 0 ? 1 : 0;
                case Tape.AND:
                    return a != 0 && b != 0 ? 1 : 0;
                case Tape.LESS:
                    return a < b ? 1 : 0;
                case Tape.EQUAL:
                    return a == b ? 1 : 0;
                case Tape.PLUS:
                    return a + b;
                case Tape.MINUS:
                    return a - b;
                default:
                    return a * b;
            }
        }
    }

    /** The tape, and how it is read: as soon as a token can't stand, all reading ends with that token still held. */
    private static final class Tape {
        static final String WORDS = "value first number age owner day turns gives spoils or and not ";
        static final int VALUE_NAME = -1, FIRST_NAME = -2, NUMBER_NAME = -3, AGE_NAME = -4, OWNER_NAME = -5,
                DAY_NAME = -6;
        static final int TURNS = -7, GIVES = -8, SPOILS = -9, OR = -10, AND = -11, NOT = -12;
        static final int LESS = -13, EQUAL = -14, PLUS = -15, MINUS = -16, TIMES = -17, NEGATED = -18;
        static final int OPENS = -19, CLOSES = -20, STOPS = -21;
        static final int ENDS = -22, NO_TOKEN = -23;
        static final int MOST_DIGITS = 4, MOST_OPEN = 5, COMPARE_LEVEL = 2, LAST_LEVEL = 4;

        private final int[] bytes = new int[MOST_BYTES];
        int size;
        /** The token that is looked at: a number itself, else one of the names above. */
        private int token;
        private int begins;
        private int behind;
        private final int[] steps = new int[MOST_BYTES];
        private int stepCount;
        private final int[] ends = new int[3];

        void add(int letter) {
            if (size < bytes.length) {
                bytes[size] = letter;
                size++;
            }
        }

        Text newText() {
            return new Text(Arrays.copyOf(steps, stepCount), Arrays.copyOf(ends, ends.length));
        }

        /** The place of the fault; NONE. */
        int read() {
            stepCount = 0;
            behind = 0;
            advance();
            boolean stands = readPart(0, TURNS) && readPart(1, GIVES) && readPart(2, SPOILS) && token == ENDS;
            return stands ? NONE : begins;
        }

        private boolean readPart(int part, int key) {
            if (token != key) {
                return false;
            }
            advance();
            if (!readLevel(0, 0) || token != STOPS) {
                return false;
            }
            advance();
            ends[part] = stepCount;
            return true;
        }

        /** Reads what the joints of a level bind, the loosest being level 0; behind the last level stands a ONE. */
        private boolean readLevel(int level, int open) {
            if (level > LAST_LEVEL) {
                return readOne(open);
            }
            if (level == COMPARE_LEVEL && token == NOT) {
                return open < MOST_OPEN && advance() && readLevel(COMPARE_LEVEL, open + 1) && put(NOT);
            }
            if (!readLevel(level + 1, open)) {
                return false;
            }
            // What was compared can't be compared again; all other joints may follow one another.
            int most = level == COMPARE_LEVEL ? 1 : MOST_BYTES;
            for (int i = 0; i < most && levelOf(token) == level; i++) {
                int joint = token;
                advance();
                if (!readLevel(level + 1, open)) {
                    return false;
                }
                put(joint);
            }
            return true;
        }

        private boolean readOne(int open) {
            if (token >= DAY_NAME) {
                return put(token) && advance();
            }
            if (token == MINUS) {
                return open < MOST_OPEN && advance() && readOne(open + 1) && put(NEGATED);
            }
            return token == OPENS && open < MOST_OPEN && advance() && readLevel(0, open + 1)
                    && token == CLOSES && advance();
        }

        private static int levelOf(int joint) {
            switch (joint) {
                case OR:
                    return 0;
                case AND:
                    return 1;
                case LESS:
                case EQUAL:
                    return COMPARE_LEVEL;
                case PLUS:
                case MINUS:
                    return 3;
                case TIMES:
                    return LAST_LEVEL;
                default:
                    return NONE;
            }
        }

        /** Always true, so that it may stand behind what had to be read first. */
        private boolean put(int step) {
            if (stepCount < steps.length) {
                steps[stepCount] = step;
                stepCount++;
            }
            return true;
        }

        /** Always true, as put(). */
        private boolean advance() {
            int at = behind;
            for (int i = at; i < size && (bytes[i] == ' ' || bytes[i] == '\n'); i++) {
                at = i + 1;
            }
            begins = at;
            if (at >= size) {
                token = ENDS;
            } else if (isBetween(bytes[at], 'a', 'z')) {
                goBehindAll('a', 'z');
                token = word();
            } else if (isBetween(bytes[at], '0', '9')) {
                goBehindAll('0', '9');
                token = number();
            } else {
                token = sign(bytes[at]);
                behind = at + 1;
            }
            return true;
        }

        /** Goes behind all bytes from least to most that stand here side by side: a token is as long as can be. */
        private void goBehindAll(char least, char most) {
            for (int i = begins; i < size && bytes[i] >= least && bytes[i] <= most; i++) {
                behind = i + 1;
            }
        }

        private int number() {
            if (behind - begins > MOST_DIGITS) {
                return NO_TOKEN;
            }
            int number = 0;
            for (int i = begins; i < behind; i++) {
                number = number * 10 + bytes[i] - '0';
            }
            return number;
        }

        /** The words stand in the order of their numbers, from -1 down. */
        private int word() {
            int name = VALUE_NAME;
            int at = begins;
            boolean isSame = true;
            for (int i = 0; i < WORDS.length(); i++) {
                char letter = WORDS.charAt(i);
                if (letter != ' ') {
                    isSame = isSame && at < behind && bytes[at] == letter;
                    at++;
                } else if (isSame && at == behind) {
                    return name;
                } else {
                    name--;
                    at = begins;
                    isSame = true;
                }
            }
            return NO_TOKEN;
        }

        private static int sign(int letter) {
            switch (letter) {
                case '(':
                    return OPENS;
                case ')':
                    return CLOSES;
                case ';':
                    return STOPS;
                case '+':
                    return PLUS;
                case '-':
                    return MINUS;
                case '*':
                    return TIMES;
                case '<':
                    return LESS;
                case '=':
                    return EQUAL;
                default:
                    return NO_TOKEN;
            }
        }
    }

    /** A row of numbers, each kept as its sort would hold it; or missing. */
    private static final class Sheet {
        int sort = NONE;
        int size;
        final int[] items = new int[MOST_ITEMS];

        boolean isMissing() {
            return sort == NONE;
        }

        void become(int ofSort, int ofSize) {
            sort = ofSort;
            size = ofSize;
            Arrays.fill(items, 0);
        }

        boolean hasRoom(int at, int n) {
            return at >= 0 && n >= 0 && at <= size && n <= size - at;
        }

        void put(int i, int v) {
            if (i < 0 || i >= size) {
                return;
            }
            if (sort == BYTES) {
                items[i] = (byte) v;
            } else if (sort == SHORTS) {
                items[i] = (short) v;
            } else {
                items[i] = v;
            }
        }
    }

    /** What an image keeps; a coin's kind never changes, so it may be kept with the rest. */
    private static final class Image {
        boolean isThere;
        int day;
        int rule;
        int coinCount;
        final Coin[] coins = new Coin[MOST_COINS];

        Image() {
            for (int i = 0; i < coins.length; i++) {
                coins[i] = new Coin();
            }
        }
    }
}
