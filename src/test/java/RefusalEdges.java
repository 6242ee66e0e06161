import java.util.ArrayList;
import java.util.List;
import java.util.function.Supplier;
import java.util.function.ToLongFunction;

/** Sentences on refusals: which there are, which comes first, and that they change nothing. */
final class RefusalEdges extends Edges {
    private static final int BYTES = 0, SHORTS = 1, INTS = 2;
    /** Of the sheets of roomy(); the last is missing. */
    private static final int[] SIZES = {4, 2, 3};

    RefusalEdges(Due due, Document document) {
        super(due, document);
    }

    @Override
    void all() {
        test(TERMS, "Refusals, the first that the call's words name;", this::firstNamed);
        test(TERMS, "they change nothing:", this::nothingChanges);
        test(TERMS, "BAD (-2: a number is none such or not as told), STATE (-3), FULL (-4);", () -> {
            is("BAD", GoldTurnsBack.BAD, -2);
            is("STATE", GoldTurnsBack.STATE, -3);
            is("FULL", GoldTurnsBack.FULL, -4);
            is("a number that is none such", roomy().pay(4, 0), -2);
            is("a number not as told", roomy().buy(0, 0, 0), -2);
            is("a turned one is paid", roomy().pay(1, 0), -3);
            is("a ninth coin", full().coin(COIN, 0, 1), -4);
        });
        test(TERMS, "the host's: -11 nothing where something is asked, -12 a place outside, "
                + "-13 a thing of another sort or KIND, -14 a size below 0.", () -> {
            is("an item of a missing sheet", roomy().cell(3, 0, 0), -11);
            is("what a missing sheet tells", roomy().tells(3, 0, 0), -11);
            is("a coin that is none", roomy().taken(4, 0), -11);
            is("an item outside", roomy().cell(0, 4, 0), -12);
            is("bytes taken for shorts", roomy().coins(0, SHORTS, 0, 1), -13);
            is("a ducat taken for a groat", roomy().taken(1, GROAT), -13);
            is("a row of -1", roomy().sheet(0, INTS, -1), -14);
        });
    }

    /** Four coins, two texts, a tape, three sheets that tell of coin 3, and an image of two coins. */
    private static GoldTurnsBack roomy() {
        GoldTurnsBack x = valley();
        text(x, "turns 9;gives first*3;spoils 1;");
        coin(x, COIN, 3, 50, 4, 5, 0);
        coin(x, DUCAT, 6, 40, 7, 20, 1);
        x.force(1);
        x.set(0, 0, 17);
        x.image();
        coin(x, CROWN, 8, 22, 2, 3, 2);
        coin(x, TRUE, 0, 33, 0, 0, 3);
        x.force(0);
        x.set(0, 0, 998);
        for (int sort = BYTES; sort <= INTS; sort++) {
            x.sheet(sort, sort, SIZES[sort]);
            for (int i = 0; i < SIZES[sort]; i++) {
                x.cell(sort, i, 33);
            }
        }
        Valley.feed(x, "turns 3");
        return x;
    }

    /** No room for a coin, a text, a byte or a day more, and no image. */
    private static GoldTurnsBack full() {
        GoldTurnsBack x = valley();
        for (int i = 1; i < 6; i++) {
            text(x, "turns " + i + ";gives " + i + ";spoils " + i + ";");
        }
        for (int i = 0; i < 8; i++) {
            coin(x, i % 6, i, 33, i, i, i % 4);
        }
        x.set(0, 0, 999);
        x.force(3);
        for (int i = 0; i < 160; i++) {
            x.feed(' ');
        }
        return x;
    }

    /** All that can be asked; sheets are read by what they tell of coin 3, the tape by what it begins. */
    private static List<Long> look(GoldTurnsBack x) {
        List<Long> seen = new ArrayList<>();
        lookAtCoins(x, seen);
        for (int s = 0; s < 4; s++) {
            seen.add((long) x.tells(s, 3, 0));
            for (int sort = BYTES; sort <= INTS; sort++) {
                seen.add((long) x.coins(s, sort, 0, 0));
            }
            int size = s < SIZES.length ? SIZES[s] : 0;
            seen.add((long) x.copy(s, 0, s, 0, size));
            seen.add((long) x.cell(s, size, 1));
        }
        Valley.feed(x, ";gives 4;spoils 5;");
        seen.add((long) x.text());
        for (int text = 5; text >= 0; text--) {
            seen.add((long) x.force(text));
            for (int what = 7; what < 10; what++) {
                seen.add((long) x.told(0, what));
            }
        }
        seen.add((long) x.back());
        lookAtCoins(x, seen);
        return seen;
    }

    private static void lookAtCoins(GoldTurnsBack x, List<Long> seen) {
        for (int what = 0; what < 6; what++) {
            seen.add((long) x.count(what));
        }
        int coins = x.count(0);
        for (int c = 0; c < coins; c++) {
            for (int what = 1; what < 7; what++) {
                seen.add((long) x.told(c, what));
            }
        }
    }

    private void refused(Supplier<GoldTurnsBack> made, String call, long want, ToLongFunction<GoldTurnsBack> calls) {
        GoldTurnsBack x = made.get();
        is(call, calls.applyAsLong(x), want);
        List<Long> untouched = look(made.get());
        List<Long> seen = look(x);
        is("what is seen behind " + call, seen.equals(untouched) ? 1 : 0, 1);
    }

    private void roomy(String call, long want, ToLongFunction<GoldTurnsBack> calls) {
        refused(RefusalEdges::roomy, call, want, calls);
    }

    private void full(String call, long want, ToLongFunction<GoldTurnsBack> calls) {
        refused(RefusalEdges::full, call, want, calls);
    }

    private void nothingChanges() {
        lookSees();
        coinsAndTexts();
        daysAndPayments();
        whatIsBest();
        whatWasTold();
        host();
        fullOnes();
    }

    /** That looking sees what a call may change, else the rest would show nothing. */
    private void lookSees() {
        List<Long> untouched = look(roomy());
        List<ToLongFunction<GoldTurnsBack>> changes = List.of(x -> x.set(0, 0, 1), x -> x.set(1, 2, 1),
                x -> x.set(2, 3, 1), x -> x.set(3, 1, 1), x -> x.set(4, 0, 1), x -> x.set(5, 0, 1),
                x -> x.coin(COIN, 0, 1), x -> x.feed(32), x -> x.text(), x -> x.force(1), x -> x.day(),
                x -> x.pay(0, 1), x -> x.buy(0, 1, 50), x -> x.film(3, 0, 0), x -> x.film(0, 3, 4), x -> x.image(),
                x -> x.back(), x -> x.sheet(0, BYTES, 4), x -> x.sheet(3, INTS, 0), x -> x.sheet(1, -1, 0),
                x -> x.cell(1, 1, 7), x -> x.sheet(2, INTS, 2));
        for (int i = 0; i < changes.size(); i++) {
            GoldTurnsBack x = roomy();
            changes.get(i).applyAsLong(x);
            is("change " + i + " is seen", look(x).equals(untouched) ? 1 : 0, 0);
        }
    }

    private void coinsAndTexts() {
        roomy("set(-1, 0, 1)", BAD, x -> x.set(-1, 0, 1));
        roomy("set(6, 0, 1)", BAD, x -> x.set(6, 0, 1));
        roomy("set(0, 0, 1000)", BAD, x -> x.set(0, 0, 1000));
        roomy("set(0, 0, -1)", BAD, x -> x.set(0, 0, -1));
        roomy("set(1, 0, 10)", BAD, x -> x.set(1, 0, 10));
        roomy("set(2, 0, 0)", BAD, x -> x.set(2, 0, 0));
        roomy("set(3, 0, 10)", BAD, x -> x.set(3, 0, 10));
        roomy("set(4, 0, 1000)", BAD, x -> x.set(4, 0, 1000));
        roomy("set(5, 0, 4)", BAD, x -> x.set(5, 0, 4));
        roomy("set(4, 4, 1)", BAD, x -> x.set(4, 4, 1));
        roomy("coin(6, 0, 1)", BAD, x -> x.coin(6, 0, 1));
        roomy("coin(0, 10, 1)", BAD, x -> x.coin(0, 10, 1));
        roomy("coin(0, 0, 100)", BAD, x -> x.coin(0, 0, 100));
        roomy("told(4, 1)", NO_ANSWER, x -> x.told(4, 1));
        roomy("told(0, 12)", NO_ANSWER, x -> x.told(0, 12));
        roomy("feed(256)", BAD, x -> x.feed(256));
        roomy("feed(-1)", BAD, x -> x.feed(-1));
        roomy("force(2)", BAD, x -> x.force(2));
        roomy("force(-1)", BAD, x -> x.force(-1));
    }

    private void daysAndPayments() {
        roomy("pay(4, 0)", BAD, x -> x.pay(4, 0));
        roomy("pay(0, 4)", BAD, x -> x.pay(0, 4));
        roomy("pay(1, 0): turned", STATE, x -> x.pay(1, 0));
        roomy("pay(2, 2): one's own", STATE, x -> x.pay(2, 2));
        roomy("buy(4, 0, 50)", BAD, x -> x.buy(4, 0, 50));
        roomy("buy(0, 4, 50)", BAD, x -> x.buy(0, 4, 50));
        roomy("buy(0, 0, 50)", BAD, x -> x.buy(0, 0, 50));
        roomy("buy(0, 1, 1000)", BAD, x -> x.buy(0, 1, 1000));
        roomy("buy(0, 1, 49)", STATE, x -> x.buy(0, 1, 49));
        roomy("buy(1, 0, 40): turned", STATE, x -> x.buy(1, 0, 40));
        roomy("has(4, 0)", NO_ANSWER, x -> x.has(4, 0));
        roomy("has(0, 7)", NO_ANSWER, x -> x.has(0, 7));
        roomy("run(4, 0, 0)", NO_ANSWER, x -> x.run(4, 0, 0));
        roomy("run(0, 41, 0)", NO_ANSWER, x -> x.run(0, 41, 0));
        roomy("run(0, 0, 2)", NO_ANSWER, x -> x.run(0, 0, 2));
    }

    private void whatIsBest() {
        roomy("exact(4, 0, 0)", BAD, x -> x.exact(4, 0, 0));
        roomy("exact(0, 1000, 0)", BAD, x -> x.exact(0, 1000, 0));
        roomy("exact(0, 0, 4)", BAD, x -> x.exact(0, 0, 4));
        roomy("exact(0, 51, 2)", NONE, x -> x.exact(0, 51, 2));
        roomy("wise(4, 0, 0, 0)", BAD, x -> x.wise(4, 0, 0, 0));
        roomy("wise(0, 1000, 0, 0)", BAD, x -> x.wise(0, 1000, 0, 0));
        roomy("wise(0, 0, 41, 0)", BAD, x -> x.wise(0, 0, 41, 0));
        roomy("wise(0, 0, 0, 2)", BAD, x -> x.wise(0, 0, 0, 2));
        roomy("wise(0, 51, 9, 1)", NO_ANSWER, x -> x.wise(0, 51, 9, 1));
        roomy("change(4, 0, 0)", NO_ANSWER, x -> x.change(4, 0, 0));
        roomy("change(0, 0, 0)", NO_ANSWER, x -> x.change(0, 0, 0));
        roomy("change(0, 1, 2)", NO_ANSWER, x -> x.change(0, 1, 2));
        roomy("change(0, 1, 0)", NONE, x -> x.change(0, 1, 0));
    }

    private void whatWasTold() {
        roomy("tells(4, 0, 0)", BAD, x -> x.tells(4, 0, 0));
        roomy("tells(0, 4, 0)", BAD, x -> x.tells(0, 4, 0));
        roomy("tells(0, 0, 10)", BAD, x -> x.tells(0, 0, 10));
        roomy("tells(3, 0, 0)", NOTHING, x -> x.tells(3, 0, 0));
        for (int what = 1; what < 10; what++) {
            int w = what;
            roomy("tells(3, 0, " + w + ")", NOTHING, x -> x.tells(3, 0, w));
        }
        roomy("film(4, 0, 1)", BAD, x -> x.film(4, 0, 1));
        roomy("film(0, 4, 1)", BAD, x -> x.film(0, 4, 1));
        roomy("film(0, 0, 41)", BAD, x -> x.film(0, 0, 41));
        roomy("film(0, 0, -1)", BAD, x -> x.film(0, 0, -1));
        roomy("film(3, 4, 1)", BAD, x -> x.film(3, 4, 1));
        roomy("drawn(0, 4)", NO_ANSWER, x -> x.drawn(0, 4));
        roomy("chance(0, 0, 0, 0, 0)", NO, x -> x.chance(0, 0, 0, 0, 0));
        roomy("chance(0, 21, 0, 0, 0)", NO, x -> x.chance(0, 21, 0, 0, 0));
        roomy("chance(0, 1, 4, 0, 0)", NO, x -> x.chance(0, 1, 4, 0, 0));
        roomy("chance(0, 1, 0, 9, 0)", NO, x -> x.chance(0, 1, 0, 9, 0));
        roomy("chance(0, 1, 0, 0, 2)", NO, x -> x.chance(0, 1, 0, 0, 2));
        roomy("count(6)", BAD, x -> x.count(6));
    }

    private void host() {
        roomy("sheet(4, 0, 1)", BAD, x -> x.sheet(4, 0, 1));
        roomy("sheet(0, 3, 1)", BAD, x -> x.sheet(0, 3, 1));
        roomy("sheet(0, -2, 1)", BAD, x -> x.sheet(0, -2, 1));
        roomy("sheet(0, 0, 41)", BAD, x -> x.sheet(0, 0, 41));
        roomy("sheet(0, 0, -1)", BELOW_ZERO, x -> x.sheet(0, 0, -1));
        roomy("sheet(3, 0, -1)", BELOW_ZERO, x -> x.sheet(3, 0, -1));
        roomy("cell(4, 0, 7)", BAD, x -> x.cell(4, 0, 7));
        roomy("cell(3, 0, 7)", NOTHING, x -> x.cell(3, 0, 7));
        roomy("cell(0, 4, 7)", OUTSIDE, x -> x.cell(0, 4, 7));
        roomy("cell(0, -1, 7)", OUTSIDE, x -> x.cell(0, -1, 7));
        roomy("copy(4, 0, 0, 0, 1)", BAD, x -> x.copy(4, 0, 0, 0, 1));
        roomy("copy(0, 0, 3, 0, 1)", NOTHING, x -> x.copy(0, 0, 3, 0, 1));
        roomy("copy(3, 0, 0, 0, 1)", NOTHING, x -> x.copy(3, 0, 0, 0, 1));
        roomy("copy(0, 0, 1, 0, 1)", OTHER_SORT, x -> x.copy(0, 0, 1, 0, 1));
        roomy("copy(0, 2, 0, 0, 3)", OUTSIDE, x -> x.copy(0, 2, 0, 0, 3));
        roomy("copy(0, 0, 0, 0, -1)", OUTSIDE, x -> x.copy(0, 0, 0, 0, -1));
        roomy("coins(4, 0, 0, 1)", BAD, x -> x.coins(4, 0, 0, 1));
        roomy("coins(0, 3, 0, 1)", BAD, x -> x.coins(0, 3, 0, 1));
        roomy("coins(0, 0, 0, 9)", BAD, x -> x.coins(0, 0, 0, 9));
        roomy("coins(0, 1, 0, 1)", OTHER_SORT, x -> x.coins(0, 1, 0, 1));
        roomy("coins(3, 0, 0, 1)", NOTHING, x -> x.coins(3, 0, 0, 1));
        roomy("coins(0, 0, 4, 1)", OUTSIDE, x -> x.coins(0, 0, 4, 1));
        roomy("coins(0, 0, 0, 1): left out", 0, x -> x.coins(0, 0, 0, 1));
        roomy("taken(0, 6)", BAD, x -> x.taken(0, 6));
        roomy("taken(4, 0)", NOTHING, x -> x.taken(4, 0));
        roomy("taken(0, 1)", OTHER_SORT, x -> x.taken(0, 1));
    }

    private void fullOnes() {
        full("coin(0, 0, 1)", FULL, x -> x.coin(0, 0, 1));
        full("feed(32)", FULL, x -> x.feed(32));
        full("text()", FULL, x -> x.text());
        full("force(6)", BAD, x -> x.force(6));
        full("day()", STATE, x -> x.day());
        full("back()", STATE, x -> x.back());
    }

    private void firstNamed() {
        is("coin: BAD, FULL", full().coin(6, 0, 1), BAD);
        is("feed: BAD, FULL", full().feed(256), BAD);
        is("pay: BAD, STATE", roomy().pay(1, 4), BAD);
        is("buy: BAD (price), STATE", roomy().buy(0, 1, 1000), BAD);
        is("buy: BAD (one and the same), STATE", roomy().buy(1, 1, 49), BAD);
        is("tells: BAD (coin), -11", roomy().tells(3, 4, 0), BAD);
        is("tells: BAD (what), -11", roomy().tells(3, 0, 10), BAD);
        is("sheet: BAD (sheet), -14", roomy().sheet(4, 0, -1), BAD);
        is("sheet: BAD (sort), -14", roomy().sheet(0, 3, -1), BAD);
        is("cell: BAD, -12", roomy().cell(4, 9, 0), BAD);
        is("cell: -11, -12", roomy().cell(3, 9, 0), NOTHING);
        is("copy: BAD, -11", roomy().copy(3, 0, 4, 0, 1), BAD);
        is("copy: BAD, -12", roomy().copy(0, 0, 4, 0, -1), BAD);
        is("copy: -11, -12", roomy().copy(0, 9, 3, 0, -1), NOTHING);
        is("copy: -13, -12", roomy().copy(0, 9, 1, 0, -1), OTHER_SORT);
        is("coins: BAD (n), -13", roomy().coins(0, 1, 0, 9), BAD);
        is("coins: BAD (n), -11", roomy().coins(3, 1, 0, 9), BAD);
        is("coins: BAD (sort), -11", roomy().coins(3, 3, 0, 1), BAD);
        is("coins: -13, -12", roomy().coins(0, 1, 9, 1), OTHER_SORT);
        is("coins: -11, -12", roomy().coins(3, 1, 9, 1), NOTHING);
        is("taken: BAD, -11", roomy().taken(4, 6), BAD);
        is("taken: BAD, -13", roomy().taken(0, 6), BAD);
    }
}
