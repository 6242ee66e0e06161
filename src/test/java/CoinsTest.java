/** Promises 1 to 4: a new object, set, coin, told. */
public final class CoinsTest {
    private static final Due due = new Due();

    public static void main(String[] args) {
        aNewObject();
        coinsCome();
        wrongCoins();
        setAnswersWhatWas();
        wrongSets();
        toldOfParts();
        toldByKinds();
        boundsAreLaidOnce();
        worthOfTurned();
        toldNoneSuch();
        due.end();
    }

    private static void aNewObject() {
        GoldTurnsBack x = new GoldTurnsBack();
        due.is("count(0)", x.count(0), 0);
        due.is("count(1)", x.count(1), 0);
        due.is("count(2)", x.count(2), 0);
        due.is("count(3)", x.count(3), 1);
        due.is("count(4)", x.count(4), 0);
        due.is("count(5)", x.count(5), 0);
        due.is("back()", x.back(), Valley.STATE);
        for (int s = 0; s < 4; s++) {
            due.is("cell of a new sheet", x.cell(s, 0, 0), Valley.NOTHING);
        }
    }

    private static void coinsCome() {
        GoldTurnsBack x = new GoldTurnsBack();
        for (int i = 0; i < 8; i++) {
            due.is("coin " + i, x.coin(i % 6, i, 10 + i), i);
            due.is("number", x.told(i, 1), i);
            due.is("value", x.told(i, 2), 10 + i);
            due.is("first", x.told(i, 3), 0);
            due.is("age", x.told(i, 4), 0);
            due.is("owner", x.told(i, 5), 0);
            due.is("kind", x.told(i, 6), i % 6);
        }
        due.is("a ninth", x.coin(0, 0, 1), Valley.FULL);
        due.is("a bad ninth", x.coin(0, 0, 0), Valley.BAD);
        due.is("count(0)", x.count(0), 8);
    }

    private static void wrongCoins() {
        GoldTurnsBack x = new GoldTurnsBack();
        int[][] wrong = {{-1, 0, 1}, {6, 0, 1}, {0, -1, 1}, {0, 10, 1}, {0, 0, 0}, {0, 0, 100}, {0, 0, -1},
            {Integer.MIN_VALUE, 0, 1}, {0, Integer.MAX_VALUE, 1}, {0, 0, Integer.MIN_VALUE}};
        for (int[] w : wrong) {
            due.is("wrong coin", x.coin(w[0], w[1], w[2]), Valley.BAD);
        }
        due.is("count(0)", x.count(0), 0);
        due.is("coin(5, 9, 99)", x.coin(5, 9, 99), 0);
        due.is("coin(0, 0, 1)", x.coin(0, 0, 1), 1);
    }

    private static void setAnswersWhatWas() {
        GoldTurnsBack x = new GoldTurnsBack();
        x.coin(0, 3, 20);
        int[] was = {0, 3, 20, 0, 0, 0};
        int[] most = {999, 9, 99, 9, 999, 3};
        int[] least = {0, 0, 1, 0, 0, 0};
        for (int what = 0; what < 6; what++) {
            due.is("set most of " + what, x.set(what, 0, most[what]), was[what]);
            due.is("told most of " + what, x.told(0, what), most[what]);
            due.is("set least of " + what, x.set(what, 0, least[what]), most[what]);
            due.is("told least of " + what, x.told(0, what), least[what]);
        }
        due.is("the day is nobody's", x.set(0, -77, 5), 0);
        due.is("the day is nobody's", x.set(0, 8, 6), 5);
    }

    private static void wrongSets() {
        GoldTurnsBack x = new GoldTurnsBack();
        x.coin(0, 3, 20);
        int[] above = {1000, 10, 100, 10, 1000, 4};
        int[] below = {-1, -1, 0, -1, -1, -1};
        for (int what = 0; what < 6; what++) {
            int was = x.told(0, what);
            due.is("set above", x.set(what, 0, above[what]), Valley.BAD);
            due.is("set below", x.set(what, 0, below[what]), Valley.BAD);
            due.is("set far", x.set(what, 0, Integer.MIN_VALUE), Valley.BAD);
            due.is("it stays", x.told(0, what), was);
            due.is("no such coin", x.set(what, 1, 1), what == 0 ? 0 : Valley.BAD);
            due.is("no such coin", x.set(what, -1, 1), what == 0 ? 1 : Valley.BAD);
        }
        due.is("kind is not set", x.set(6, 0, 1), Valley.BAD);
        due.is("what -1", x.set(-1, 0, 1), Valley.BAD);
        due.is("what far", x.set(Integer.MAX_VALUE, 0, 1), Valley.BAD);
    }

    private static void toldOfParts() {
        GoldTurnsBack x = new GoldTurnsBack();
        x.set(0, 0, 41);
        due.is("the day without a coin", x.told(0, 0), 41);
        due.is("the day of no coin", x.told(-5, 0), 41);
        Valley.coin(x, 4, 7, 33, 6, 12, 2);
        due.are("parts", new long[] {x.told(0, 0), x.told(0, 1), x.told(0, 2), x.told(0, 3), x.told(0, 4),
            x.told(0, 5), x.told(0, 6)}, 41, 7, 33, 6, 12, 2, 4);
    }

    private static long[] rules(GoldTurnsBack x, int c) {
        return new long[] {x.told(c, 7), x.told(c, 8), x.told(c, 9)};
    }

    private static void toldByKinds() {
        GoldTurnsBack x = Valley.ruled("turns 9;gives 20;spoils 4;");
        for (int kind = 0; kind < 6; kind++) {
            Valley.coin(x, kind, 5, 50, 3, 0, 0);
        }
        due.are("coin", rules(x, 0), 9, 20, 4);
        due.are("ducat", rules(x, 1), 11, 20, 4);
        due.are("groat", rules(x, 2), 4, 23, 8);
        due.are("crown", rules(x, 3), 22, 35, 4);
        due.are("wage", rules(x, 4), 3, -23, 8);
        due.are("true", rules(x, 5), 1000, 0, 0);
        x.set(3, 1, 0);
        x.set(3, 3, 0);
        due.are("ducat for nothing", rules(x, 1), 11, 0, 4);
        due.are("crown for nothing", rules(x, 3), 22, 0, 4);
        x.set(3, 1, 6);
        due.are("ducat for 6", rules(x, 1), 11, 20, 4);
        x.set(3, 1, 7);
        x.set(3, 3, 7);
        due.are("ducat for 7", rules(x, 1), 11, 20, 0);
        due.are("crown for 7", rules(x, 3), 22, 55, 0);
    }

    private static void boundsAreLaidOnce() {
        GoldTurnsBack x = Valley.ruled("turns 0-5;gives 0-500;spoils 70;");
        for (int kind = 0; kind < 6; kind++) {
            Valley.coin(x, kind, 1, 50, 9, 0, 0);
        }
        due.are("coin", rules(x, 0), 1, -99, 70);
        due.are("ducat", rules(x, 1), 1, -99, 0);
        due.are("groat", rules(x, 2), 1, -96, 99);
        due.are("crown: twice 0 is 0", rules(x, 3), 1, -90, 0);
        due.are("wage", rules(x, 4), 1, 96, 99);
        due.are("true", rules(x, 5), 1000, 0, 0);
        x.force(Valley.text(x, "turns 9999;gives 9999;spoils 9999;"));
        x.set(1, 3, 9);
        due.are("coin", rules(x, 0), 99, 99, 99);
        due.are("ducat", rules(x, 1), 99, 99, 0);
        due.are("groat", rules(x, 2), 49, 102, 99);
        due.are("crown", rules(x, 3), 206, 180, 0);
        due.are("wage", rules(x, 4), 3, -102, 99);
        x.force(Valley.text(x, "turns 1;gives 0;spoils 0-1;"));
        due.are("coin", rules(x, 0), 1, 0, 0);
        due.are("groat: half of 1", rules(x, 2), 1, 3, 0);
        due.are("wage: half of 1", rules(x, 4), 1, -3, 0);
    }

    private static void worthOfTurned() {
        GoldTurnsBack x = new GoldTurnsBack();
        int c = Valley.coin(x, 0, 0, 50, 4, 0, 0);
        int[] ages = {0, 6, 7, 8, 16, 17, 18, 999};
        int[] worth = {50, 50, 20, 18, 2, 0, 0, 0};
        for (int i = 0; i < ages.length; i++) {
            x.set(4, c, ages[i]);
            due.is("whole at " + ages[i], x.told(c, 10), ages[i] < 7 ? 1 : 0);
            due.is("worth at " + ages[i], x.told(c, 11), worth[i]);
        }
        int w = Valley.coin(x, 4, 0, 50, 4, 999, 0);
        due.is("less than 0 does not go off", x.told(w, 11), -23);
        int t = Valley.coin(x, 5, 0, 50, 4, 999, 0);
        due.is("true is whole", x.told(t, 10), 1);
        due.is("true is worth itself", x.told(t, 11), 50);
    }

    private static void toldNoneSuch() {
        GoldTurnsBack x = new GoldTurnsBack();
        due.is("no coin", x.told(0, 1), Valley.NO_ANSWER);
        x.coin(0, 0, 1);
        due.is("coin 1", x.told(1, 11), Valley.NO_ANSWER);
        due.is("coin -1", x.told(-1, 6), Valley.NO_ANSWER);
        due.is("what 12", x.told(0, 12), Valley.NO_ANSWER);
        due.is("what -1", x.told(0, -1), Valley.NO_ANSWER);
        due.is("what far", x.told(0, Integer.MAX_VALUE), Valley.NO_ANSWER);
    }
}
