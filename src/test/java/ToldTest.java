/** Promises 16 to 22: tells, film, drawn, chance, image, back, count. */
public final class ToldTest {
    private static final Due due = new Due();

    public static void main(String[] args) {
        readBack();
        readBackByTexts();
        signsOfSorts();
        filmed();
        wrongTells();
        drawnAges();
        chances();
        wrongChances();
        imaged();
        imageKeepsNoTexts();
        counted();
        due.end();
    }

    private static long[] tells(GoldTurnsBack x, int sheet, int coin) {
        long[] answers = new long[10];
        for (int what = 0; what < 10; what++) {
            answers[what] = x.tells(sheet, coin, what);
        }
        return answers;
    }

    private static void readBack() {
        GoldTurnsBack x = new GoldTurnsBack();
        Valley.coin(x, 0, 3, 50, 4, 5, 0);
        Valley.coin(x, 0, 1, 50, 4, 5, 2);
        Valley.coin(x, 2, 1, 50, 4, 5, 2);
        Valley.row(x, 0, 2, 50, 50, 20, 18, 16);
        due.are("as it is", tells(x, 0, 0), -1, 1, 1023, 16, 1, 5, 1, 50, 1, 3);
        due.are("of a groat", tells(x, 0, 2), 0, 1 + 2, 0, 0, 0, -1, 0, -1, 0, 3);
        Valley.row(x, 0, 2, 50, 50, 20, 18, 17);
        due.are("the last is otherwise", tells(x, 0, 0), 4, 0, 0, 0, 0, -1, 0, -1, 0, 0);
        Valley.row(x, 0, 2, 50);
        due.are("one number", tells(x, 0, 0), -1, 1 + 2 + 8 + 32, 1023, 1023, 7, 0, 1, 50, 1, 3);
        Valley.row(x, 0, 2, 0, 0);
        x.set(4, 0, 99);
        due.are("nothing left", tells(x, 0, 0), -1, 1 + 2 + 4 + 8, 1023, 1023, 100 - 17, 17, 99, 1, 1, 1);
        leastIsMost(x);
        x.sheet(0, 0, 0);
        due.are("nothing told", tells(x, 0, 0), -1, 63, 1023, 1023, 100, 0, 99, 1, 3, 7);
    }

    private static void leastIsMost(GoldTurnsBack x) {
        x.force(Valley.text(x, "turns 99;gives 1;spoils 1;"));
        Valley.row(x, 1, 2, 1);
        x.set(4, 0, 0);
        due.is("only the age 99", x.tells(1, 0, 4), 1);
        due.is("only the age 99", x.tells(1, 0, 5), 99);
        Valley.row(x, 1, 2, 99);
        due.is("only the value 99", x.tells(1, 0, 6), 1);
        due.is("only the value 99", x.tells(1, 0, 7), 99);
        x.force(0);
    }

    private static void readBackByTexts() {
        GoldTurnsBack x = new GoldTurnsBack();
        Valley.text(x, "turns 9;gives first*5;spoils 2;");
        Valley.text(x, "turns 7;gives 20+owner;spoils 2;");
        Valley.text(x, "turns 7;gives first*5;spoils day-2;");
        Valley.coin(x, 0, 3, 50, 4, 5, 0);
        x.set(0, 0, 1);
        Valley.row(x, 1, 1, 50, 50, 20, 18);
        due.is("three texts", x.tells(1, 0, 8), 1 + 4 + 8);
        x.force(1);
        due.is("whatever the rule is", x.tells(1, 0, 8), 1 + 4 + 8);
        due.is("but not by the rule", x.tells(1, 0, 0), 2);
        due.is("coins by the rule", x.tells(1, 0, 9), 0);
        due.is("the rule stays", x.count(5), 1);
    }

    private static void signsOfSorts() {
        GoldTurnsBack x = Valley.ruled("turns 1;gives 0-70;spoils 0;");
        Valley.coin(x, 4, 0, 99, 0, 9, 0);
        Valley.coin(x, 0, 0, 99, 0, 9, 0);
        Valley.row(x, 0, 0, 67);
        due.is("a byte", x.tells(0, 0, 0), -1);
        Valley.row(x, 0, 0, 256 + 67);
        due.is("its lowest 8 bits", x.tells(0, 0, 0), -1);
        Valley.row(x, 0, 0, 256 - 70);
        due.is("a byte below 0", x.tells(0, 1, 0), -1);
        Valley.row(x, 0, 1, 65536 - 70);
        due.is("a short below 0", x.tells(0, 1, 0), -1);
        Valley.row(x, 0, 1, 256 - 70);
        due.is("a short has 16 bits", x.tells(0, 1, 0), 0);
        Valley.row(x, 0, 2, 65536 - 70);
        due.is("an int has 32 bits", x.tells(0, 1, 0), 0);
    }

    private static void filmed() {
        GoldTurnsBack x = new GoldTurnsBack();
        Valley.coin(x, 0, 3, 50, 4, 5, 0);
        Valley.coin(x, 4, 3, 30, 4, 2, 0);
        due.is("film", x.film(0, 0, 5), 5);
        due.holds("what it shows", Valley.rowIs(x, 0, 50, 50, 20, 18, 16));
        due.is("film of 40", x.film(1, 1, 40), 40);
        due.is("told again", x.tells(1, 1, 0), -1);
        due.is("told of another", x.tells(1, 0, 0), 0);
        due.is("it has 40", x.cell(1, 39, 0), 1);
        due.is("the last is otherwise now", x.tells(1, 1, 0), 39);
        due.is("it has no more", x.cell(1, 40, 0), Valley.OUTSIDE);
        Valley.row(x, 2, 0, 1, 2, 3);
        due.is("film of 0", x.film(2, 0, 0), 0);
        due.is("it has none", x.cell(2, 0, 0), Valley.OUTSIDE);
        x.film(2, 0, 3);
        x.sheet(3, 2, 3);
        due.is("they are ints", x.copy(2, 0, 3, 0, 3), 3);
        due.is("no day passed", x.told(0, 4), 5);
        due.is("sheet", x.film(4, 0, 1), Valley.BAD);
        due.is("sheet", x.film(-1, 0, 1), Valley.BAD);
        due.is("coin", x.film(0, 2, 1), Valley.BAD);
        due.is("coin", x.film(0, -1, 1), Valley.BAD);
        due.is("n", x.film(0, 0, 41), Valley.BAD);
        due.is("n", x.film(0, 0, -1), Valley.BAD);
        due.is("the sheet stays", x.tells(2, 0, 0), -1);
    }

    private static void wrongTells() {
        GoldTurnsBack x = new GoldTurnsBack();
        due.is("no coin ahead of a missing sheet", x.tells(0, 0, 0), Valley.BAD);
        x.coin(0, 0, 1);
        due.is("missing", x.tells(0, 0, 0), Valley.NOTHING);
        due.is("what ahead of a missing sheet", x.tells(0, 0, 10), Valley.BAD);
        due.is("what", x.tells(0, 0, -1), Valley.BAD);
        due.is("sheet", x.tells(4, 0, 0), Valley.BAD);
        due.is("sheet", x.tells(-1, 0, 0), Valley.BAD);
        due.is("coin", x.tells(0, 1, 9), Valley.BAD);
        due.is("coin", x.tells(0, -1, 9), Valley.BAD);
    }

    private static void drawnAges() {
        GoldTurnsBack x = new GoldTurnsBack();
        int[] kinds = {0, 1, 2, 3, 4, 0};
        for (int i = 0; i < kinds.length; i++) {
            Valley.coin(x, kinds[i], i, 10 + i, 1 + i, 3, i % 2);
        }
        int[] seeds = {0, 1, -1, 77, Integer.MAX_VALUE, Integer.MIN_VALUE};
        for (int seed : seeds) {
            due.is("drawn " + seed, x.drawn(seed, 0), drawnBySetting(x, seed, 0));
            due.is("drawn " + seed, x.drawn(seed, 1), drawnBySetting(x, seed, 1));
        }
        due.is("ages stay", x.told(0, 4), 3);
        x.coin(1, 9, 77);
        x.coin(5, 9, 78);
        due.is("drawn of eight", x.drawn(4, 0), drawnBySetting(x, 4, 0));
        due.is("images of eight", x.image(), 8);
        x.set(2, 7, 1);
        due.is("back to eight", x.back(), 8);
        due.is("the eighth as it was", x.told(7, 2), 78);
        due.is("a true one is whole by all", x.chance(4, 20, 0, 1, 0), 1);
        x.film(0, 7, 9);
        due.is("coins of which it is so", x.tells(0, 0, 9), 128);
        due.is("one who has nothing", x.drawn(5, 3), 0);
        due.is("owner", x.drawn(5, 4), Valley.NO_ANSWER);
        due.is("owner", x.drawn(5, -1), Valley.NO_ANSWER);
    }

    /** Truly lays the ages that a seed draws, asks, and goes back. */
    private static int drawnBySetting(GoldTurnsBack x, int seed, int owner) {
        x.image();
        layDrawn(x, seed);
        int rich = x.has(owner, 0);
        x.back();
        return rich;
    }

    private static void layDrawn(GoldTurnsBack x, int seed) {
        int z = seed;
        for (int i = 0; i < x.count(0); i++) {
            z = z * 1103515245 + 12345;
            x.set(4, i, (z >>> 9) % 15);
        }
    }

    private static GoldTurnsBack sixCoins() {
        GoldTurnsBack x = new GoldTurnsBack();
        for (int i = 0; i < 6; i++) {
            Valley.coin(x, 0, i, 10 + i, 1 + i, 3, i % 2);
        }
        return x;
    }

    private static void chances() {
        for (int seed : new int[] {0, 12, Integer.MAX_VALUE - 3}) {
            for (int k = 0; k <= 4; k++) {
                GoldTurnsBack x = sixCoins();
                int hits = 0;
                for (int m = 1; m <= 20; m++) {
                    x.image();
                    layDrawn(x, seed + m - 1);
                    hits += x.run(1, 0, 1) >= k ? 1 : 0;
                    x.back();
                    long above = x.chance(seed, m, 1, k, 0);
                    long below = x.chance(seed, m, 1, k, 1);
                    due.is("the same part", above * m, below * hits);
                    due.is("in lowest terms", java.math.BigInteger.valueOf(above)
                            .gcd(java.math.BigInteger.valueOf(below)).longValue(), 1);
                }
            }
        }
        GoldTurnsBack x = sixCoins();
        due.is("none", x.chance(9, 20, 1, 8, 0), 0);
        due.is("none of 1", x.chance(9, 20, 1, 8, 1), 1);
        due.is("all", x.chance(9, 20, 2, 0, 0), 1);
        due.is("all of 1", x.chance(9, 20, 2, 0, 1), 1);
    }

    private static void wrongChances() {
        GoldTurnsBack x = new GoldTurnsBack();
        due.is("m", x.chance(0, 0, 0, 0, 0), GoldTurnsBack.NO);
        due.is("m", x.chance(0, 21, 0, 0, 0), GoldTurnsBack.NO);
        due.is("m", x.chance(0, -5, 0, 0, 1), GoldTurnsBack.NO);
        due.is("owner", x.chance(0, 1, 4, 0, 0), GoldTurnsBack.NO);
        due.is("owner", x.chance(0, 1, -1, 0, 0), GoldTurnsBack.NO);
        due.is("k", x.chance(0, 1, 0, 9, 0), GoldTurnsBack.NO);
        due.is("k", x.chance(0, 1, 0, -1, 0), GoldTurnsBack.NO);
        due.is("part", x.chance(0, 1, 0, 0, 2), GoldTurnsBack.NO);
        due.is("part", x.chance(0, 1, 0, 0, -1), GoldTurnsBack.NO);
        due.is("NO", GoldTurnsBack.NO, -(1L << 62));
    }

    private static void imaged() {
        GoldTurnsBack x = new GoldTurnsBack();
        due.is("none", x.back(), Valley.STATE);
        due.is("of nothing", x.image(), 0);
        x.set(0, 0, 5);
        Valley.coin(x, 3, 4, 5, 6, 7, 2);
        Valley.text(x, "turns 3;gives 1;spoils 1;");
        due.is("back to nothing", x.back(), 0);
        due.is("the day", x.count(2), 0);
        due.is("coins", x.count(0), 0);
        Valley.coin(x, 1, 4, 5, 6, 7, 2);
        x.force(1);
        x.set(0, 0, 8);
        due.is("of one", x.image(), 1);
        for (int what = 0; what < 6; what++) {
            x.set(what, 0, 1);
        }
        x.force(0);
        x.coin(2, 2, 2);
        for (int times = 0; times < 2; times++) {
            due.is("back", x.back(), 1);
            due.are("all is as it was", new long[] {x.told(0, 0), x.told(0, 1), x.told(0, 2), x.told(0, 3),
                x.told(0, 4), x.told(0, 5), x.told(0, 6), x.count(5)}, 8, 4, 5, 6, 7, 2, 1, 1);
            x.day();
        }
    }

    private static void imageKeepsNoTexts() {
        GoldTurnsBack x = new GoldTurnsBack();
        x.image();
        x.feed(32);
        x.sheet(0, 0, 1);
        x.back();
        due.is("the tape stays", x.count(4), 1);
        due.is("sheets stay", x.cell(0, 0, 1), 1);
        Valley.text(x, "turns 3;gives 1;spoils 1;");
        x.back();
        due.is("texts stay", x.count(3), 2);
    }

    private static void counted() {
        GoldTurnsBack x = new GoldTurnsBack();
        Valley.coin(x, 0, 0, 1, 0, 7, 0);
        Valley.coin(x, 0, 0, 1, 0, 6, 3);
        Valley.coin(x, 5, 0, 1, 0, 7, 1);
        x.set(0, 0, 44);
        Valley.text(x, "turns 3;gives 1;spoils 1;");
        x.force(1);
        x.feed(1);
        x.feed(2);
        due.are("counts", new long[] {x.count(0), x.count(1), x.count(2), x.count(3), x.count(4), x.count(5)},
                3, 1, 44, 2, 2, 1);
        x.force(0);
        due.is("whole by the other text", x.count(1), 2);
        due.is("what", x.count(6), Valley.BAD);
        due.is("what", x.count(-1), Valley.BAD);
    }
}
