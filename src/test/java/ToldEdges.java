/** Sentences on TOLD, DRAWN, AN IMAGE, and of the promises 16 to 22. */
final class ToldEdges extends Edges {
    private static final int INTS = 2;

    ToldEdges(Due due, Document document) {
        super(due, document);
    }

    @Override
    void all() {
        told();
        test(TERMS, "DRAWN by a SEED: AGES of all, in order, would be (z >>> 9) % 15, z being "
                + "z * 1103515245 + 12345 (an int; SEED at first) anew for each: RICH of one.", this::agesAreDrawn);
        test(TERMS, "IN m seeds (1 .. 20), SEED and each 1 more (an int): of these those by which one has "
                + "k (0 .. 8) or more in one's PURSE.", this::seedsAreCounted);
        test(TERMS, "AN IMAGE keeps DAY, NUMBERS, VALUES, FIRSTS, AGES, OWNERS, THE RULE (COINS that came since go).",
                this::imageKeeps);
        tellsCalls();
        filmCalls();
        drawnCalls();
        imageCalls();
        countCalls();
    }

    /** By TEXT 0: worth 50, 50, 20, 18, .. behind 0, 1, .. days. */
    private static GoldTurnsBack oneCoin() {
        GoldTurnsBack x = valley();
        coin(x, COIN, 0, 50, 4, 5, 0);
        return x;
    }

    private void told() {
        test(TERMS, "TOLD: a SHEET tells WORTH of a COIN behind 0, 1, .. DAYS (40 at most numbers): "
                + "the first (from 0) that is otherwise; NONE;", this::firstOtherwise);
        test(TERMS, "KINDS (bits 0 .. 5), NUMBERS (bits 0 .. 9), FIRSTS (bits 0 .. 9),", () -> {
            kinds();
            numbers();
            firsts();
        });
        test(TERMS, "AGES (of 0 .. 99: how many, the least),", this::ages);
        test(TERMS, "VALUES (of 1 .. 99: how many, the least),", this::values);
        test(TERMS, "TEXTS (bits), were they THE RULE, by which all would be so;", this::texts);
        test(TERMS, "COINS (bits) of which it is so.", this::coinsOfWhich);
    }

    private void firstOtherwise() {
        GoldTurnsBack x = oneCoin();
        x.sheet(0, INTS, 0);
        is("a row of none", x.tells(0, 0, 0), NONE);
        row(x, 0, INTS, 50, 50, 20, 18);
        is("all so", x.tells(0, 0, 0), NONE);
        row(x, 0, INTS, 51, 50, 20, 17);
        is("the first", x.tells(0, 0, 0), 0);
        row(x, 0, INTS, 50, 50, 20, 17);
        is("the last", x.tells(0, 0, 0), 3);
        row(x, 0, INTS, 50, 50, 21, 17);
        is("the first of two", x.tells(0, 0, 0), 2);
        x.film(0, 0, 40);
        is("40 numbers", x.tells(0, 0, 0), NONE);
        x.cell(0, 39, 1);
        is("the 40th", x.tells(0, 0, 0), 39);
        GoldTurnsBack y = ruled("1", "day-950", "0");
        coin(y, COIN, 0, 50, 0, 999, 0);
        y.set(0, 0, 998);
        row(y, 0, INTS, 48, 49, 50, 51);
        is("days 998 .. 1001", y.tells(0, 0, 0), NONE);
    }

    private void kinds() {
        GoldTurnsBack x = oneCoin();
        x.sheet(0, INTS, 0);
        is("kinds of a row of none", x.tells(0, 0, 1), 63);
        row(x, 0, INTS, 50);
        x.set(4, 0, 0);
        is("all kinds are whole at 0", x.tells(0, 0, 1), 63);
        x.set(4, 0, 3);
        is("groats and wages turn at 3", x.tells(0, 0, 1), 1 + 2 + 8 + 32);
        x.set(4, 0, 999);
        is("true alone", x.tells(0, 0, 1), 32);
        row(x, 0, INTS, -23);
        is("a wage alone gives less than 0", x.tells(0, 0, 1), 16);
        row(x, 0, INTS, 1);
        is("no kind", x.tells(0, 0, 1), 0);
        is("it is a coin still", x.told(0, 6), COIN);
    }

    private void numbers() {
        GoldTurnsBack x = valley();
        coin(x, DUCAT, 0, 50, 4, 8, 0);
        row(x, 0, INTS, 50);
        is("7 and number by 2 is above 8", x.tells(0, 0, 2), 1023 - 15);
        coin(x, CROWN, 5, 50, 7, 999, 0);
        row(x, 0, INTS, 35);
        is("35 and 7 times number is 35", x.tells(0, 1, 2), 1);
        row(x, 0, INTS, 98);
        is("35 and 7 times number is 98", x.tells(0, 1, 2), 512);
        row(x, 0, INTS, 105);
        is("35 and 7 times number is 105", x.tells(0, 1, 2), 0);
        row(x, 0, INTS, 20);
        coin(x, COIN, 5, 50, 4, 7, 0);
        is("of a coin all", x.tells(0, 2, 2), 1023);
        is("it is 5 still", x.told(2, 1), 5);
    }

    private void firsts() {
        GoldTurnsBack x = oneCoin();
        row(x, 0, INTS, 50, 50);
        is("whole by all", x.tells(0, 0, 3), 1023);
        x.set(4, 0, 7);
        row(x, 0, INTS, 45);
        is("5 times 9", x.tells(0, 0, 3), 512);
        row(x, 0, INTS, 0);
        is("5 times 0", x.tells(0, 0, 3), 1);
        row(x, 0, INTS, 50);
        is("5 times 10", x.tells(0, 0, 3), 0);
        is("it is 4 still", x.told(0, 3), 4);
    }

    private void ages() {
        GoldTurnsBack x = oneCoin();
        x.set(4, 0, 500);
        x.sheet(0, INTS, 0);
        agesAre(x, "a row of none", 100, 0);
        row(x, 0, INTS, 50);
        agesAre(x, "whole at 0 .. 6", 7, 0);
        row(x, 0, INTS, 20, 18);
        agesAre(x, "turned at 7", 1, 7);
        row(x, 0, INTS, 0);
        agesAre(x, "worth 0 from 17 on", 100 - 17, 17);
        row(x, 0, INTS, 1);
        agesAre(x, "never", 0, NONE);
        is("it is 500 still", x.told(0, 4), 500);
        x.force(text(x, "turns 99;gives 3;spoils 0;"));
        row(x, 0, INTS, 3);
        agesAre(x, "turned at 99", 1, 99);
        row(x, 0, INTS, 50, 3);
        agesAre(x, "turned behind a day", 1, 98);
        x.force(text(x, "turns 1;gives age-100;spoils 0;"));
        row(x, 0, INTS, 0, 1);
        agesAre(x, "100 is too old", 0, NONE);
        row(x, 0, INTS, -1, 0, 1);
        agesAre(x, "99, and older behind days", 1, 99);
    }

    private void agesAre(GoldTurnsBack x, String what, int howMany, int least) {
        is("ages, how many: " + what, x.tells(0, 0, 4), howMany);
        is("ages, the least: " + what, x.tells(0, 0, 5), least);
    }

    private void values() {
        GoldTurnsBack x = oneCoin();
        x.sheet(0, INTS, 0);
        valuesAre(x, "a row of none", 99, 1);
        row(x, 0, INTS, 99);
        valuesAre(x, "whole, worth 99", 1, 99);
        row(x, 0, INTS, 1);
        valuesAre(x, "whole, worth 1", 1, 1);
        row(x, 0, INTS, 0);
        valuesAre(x, "no value is 0", 0, NONE);
        row(x, 0, INTS, 100);
        valuesAre(x, "no value is 100", 0, NONE);
        x.set(4, 0, 7);
        row(x, 0, INTS, 20);
        valuesAre(x, "turned", 99, 1);
        x.force(text(x, "turns value;gives 5;spoils 0;"));
        row(x, 0, INTS, 5);
        valuesAre(x, "turned at 1 .. 7", 7, 1);
        row(x, 0, INTS, 5, 5);
        x.set(4, 0, 999);
        valuesAre(x, "turned by all", 99, 1);
        is("it is 50 still", x.told(0, 2), 50);
    }

    private void valuesAre(GoldTurnsBack x, String what, int howMany, int least) {
        is("values, how many: " + what, x.tells(0, 0, 6), howMany);
        is("values, the least: " + what, x.tells(0, 0, 7), least);
    }

    private void texts() {
        GoldTurnsBack x = oneCoin();
        x.sheet(0, INTS, 0);
        is("TEXT 0 alone", x.tells(0, 0, 8), 1);
        text(x, "turns 6;gives 20;spoils 2;");
        text(x, "turns 7;gives 20;spoils 1;");
        text(x, "turns 7;gives 20;spoils 2*day-4;");
        text(x, "turns 7;gives 20;spoils 2+owner;");
        text(x, "turns 7;gives age+13;spoils 3;");
        is("all six", x.tells(0, 0, 8), 63);
        row(x, 0, INTS, 50, 50, 20, 18, 16);
        // On day 3, a day behind turning, the fourth goes off by 2; on day 4, two days behind, by 4.
        is("by 0, 4 and 5", x.tells(0, 0, 8), 1 + 16 + 32);
        row(x, 0, INTS, 50, 50, 20, 18);
        is("by 0, 3, 4 and 5", x.tells(0, 0, 8), 1 + 8 + 16 + 32);
        x.force(1);
        is("whatever the rule", x.tells(0, 0, 8), 1 + 8 + 16 + 32);
        row(x, 0, INTS, 50, 20);
        is("by 1 alone", x.tells(0, 0, 8), 2);
        row(x, 0, INTS, 1);
        is("by none", x.tells(0, 0, 8), 0);
        is("the rule is 1 still", x.count(5), 1);
    }

    private void coinsOfWhich() {
        GoldTurnsBack x = oneCoin();
        for (int i = 1; i < 8; i++) {
            coin(x, i == 3 ? GROAT : COIN, i, 50, 4, i == 5 ? 6 : 5, i % 4);
        }
        row(x, 0, INTS, 50, 50, 20);
        is("all but a groat and an older one", x.tells(0, 0, 9), 255 - 8 - 32);
        is("whichever coin is named", x.tells(0, 3, 9), 255 - 8 - 32);
        row(x, 0, INTS, 0);
        is("none", x.tells(0, 0, 9), 0);
        x.sheet(0, INTS, 0);
        is("a row of none", x.tells(0, 0, 9), 255);
    }

    /** Eight coins whose worth is their age, or 50 if that is 0. */
    private static GoldTurnsBack agesShown() {
        GoldTurnsBack x = ruled("0", "age", "0");
        for (int i = 0; i < 8; i++) {
            coin(x, COIN, 0, 50, 0, 999, 0);
        }
        return x;
    }

    private void agesAreDrawn() {
        GoldTurnsBack x = agesShown();
        drawnOneByOne(x, 0, 9, 9, 7, 14, 9, 14, 9, 10);
        drawnOneByOne(x, 3, 3, 50, 1, 6, 5, 11, 10, 3);
        drawnOneByOne(x, -1, 3, 9, 4, 1, 8, 10, 6, 7);
        drawnOneByOne(x, FAR, 14, 13, 8, 12, 12, 6, 2, 3);
        drawnOneByOne(x, FAR_BELOW, 13, 5, 3, 10, 13, 10, 13, 6);
        is("all together", x.drawn(0, 0), 9 + 9 + 7 + 14 + 9 + 14 + 9 + 10);
        is("an age stays", x.told(7, 4), 999);
        GoldTurnsBack y = ruled("0", "day", "0");
        coin(y, COIN, 0, 50, 0, 0, 2);
        y.set(0, 0, 77);
        is("on the day that is", y.drawn(0, 2), 77);
    }

    /** Each coin in turn is the only one of owner 3. */
    private void drawnOneByOne(GoldTurnsBack x, int seed, int... worth) {
        for (int i = 0; i < worth.length; i++) {
            x.set(5, i, 3);
            is("drawn by " + seed + ", coin " + i, x.drawn(seed, 3), worth[i]);
            x.set(5, i, 0);
        }
    }

    private void seedsAreCounted() {
        GoldTurnsBack x = valley();
        coin(x, COIN, 0, 50, 0, 999, 1);
        // By the seeds 0 .. 19 it would be 9 7 5 3 8 7 5 3 8 7 5 3 8 6 5 3 8 6 4 3 days old; it turns at 7.
        chanceIs(x, 0, 1, 1, 1, 0, 1);
        chanceIs(x, 0, 3, 1, 1, 1, 3);
        chanceIs(x, 0, 4, 1, 1, 1, 2);
        chanceIs(x, 0, 20, 1, 1, 3, 5);
        chanceIs(x, 2, 2, 1, 1, 1, 1);
        chanceIs(x, 0, 20, 1, 0, 1, 1);
        chanceIs(x, 0, 20, 1, 2, 0, 1);
        chanceIs(x, 0, 20, 0, 1, 0, 1);
        coin(x, COIN, 0, 50, 0, 999, 1);
        // By the greatest int and what comes behind it they would be 14 13, 13 5, 11 12, 1 12, 14 4, 12 12 days old.
        chanceIs(x, FAR, 1, 1, 1, 0, 1);
        chanceIs(x, FAR, 2, 1, 1, 1, 2);
        chanceIs(x, FAR, 6, 1, 1, 1, 2);
        chanceIs(x, FAR, 5, 1, 1, 3, 5);
        chanceIs(x, FAR, 6, 1, 2, 0, 1);
        GoldTurnsBack y = valley();
        for (int i = 0; i < 8; i++) {
            y.coin(TRUE, 0, 1);
        }
        chanceIs(y, -5, 20, 0, 8, 1, 1);
        y.set(5, 3, 1);
        chanceIs(y, -5, 20, 0, 8, 0, 1);
        chanceIs(y, -5, 20, 0, 7, 1, 1);
    }

    private void chanceIs(GoldTurnsBack x, int seed, int m, int owner, int k, int above, int below) {
        String call = "chance(" + seed + ", " + m + ", " + owner + ", " + k + ")";
        is(call + " above", x.chance(seed, m, owner, k, 0), above);
        is(call + " below", x.chance(seed, m, owner, k, 1), below);
    }

    private void imageKeeps() {
        GoldTurnsBack x = valley();
        text(x, "turns 3;gives 1;spoils 1;");
        coin(x, CROWN, 4, 5, 6, 7, 2);
        coin(x, WAGE, 1, 2, 3, 4, 1);
        x.set(0, 0, 8);
        x.force(1);
        x.image();
        for (int what = 0; what < 6; what++) {
            x.set(what, 0, 1);
            x.set(what, 1, 1);
        }
        x.force(0);
        x.coin(TRUE, 9, 9);
        x.sheet(1, INTS, 3);
        x.feed(32);
        text(x, "turns 4;gives 1;spoils 1;");
        x.feed(32);
        x.back();
        are("the first", answers(7, what -> x.told(0, what)), 8, 4, 5, 6, 7, 2, CROWN);
        are("the second", answers(7, what -> x.told(1, what)), 8, 1, 2, 3, 4, 1, WAGE);
        are("counts: THE RULE is back, TEXTS and THE TAPE stay", answers(6, what -> x.count(what)), 2, 1, 8, 3, 1, 1);
        is("sheets stay", x.cell(1, 2, 5), 1);
        is("the third has gone", x.told(2, 1), NO_ANSWER);
        is("another comes in its place", x.coin(DUCAT, 3, 3), 2);
        is("of its own kind", x.told(2, 6), DUCAT);
    }

    private void tellsCalls() {
        GoldTurnsBack x = oneCoin();
        row(x, 0, INTS, 50, 50, 20);
        row(x, 1, INTS, 7, 8);
        test(16, "TOLD of a COIN: the first that is otherwise (what 0; NONE),", () -> {
            is("so", x.tells(0, 0, 0), NONE);
            is("otherwise", x.tells(1, 0, 0), 0);
        });
        // Were it a DUCAT of number 0, it would be so too.
        test(16, "KINDS (1),", () -> are("kinds", answers(2, s -> x.tells(s, 0, 1)), 1 + 2, 0));
        test(16, "NUMBERS (2),", () -> are("numbers", answers(2, s -> x.tells(s, 0, 2)), 1023, 0));
        test(16, "FIRSTS (3),", () -> are("firsts", answers(2, s -> x.tells(s, 0, 3)), 16, 0));
        test(16, "AGES: how many (4), the least (5; NONE),", () -> {
            are("how many", answers(2, s -> x.tells(s, 0, 4)), 1, 0);
            are("the least", answers(2, s -> x.tells(s, 0, 5)), 5, NONE);
        });
        test(16, "VALUES: how many (6), the least (7; NONE),", () -> {
            are("how many", answers(2, s -> x.tells(s, 0, 6)), 1, 0);
            are("the least", answers(2, s -> x.tells(s, 0, 7)), 50, NONE);
        });
        test(16, "TEXTS (8),", () -> are("texts", answers(2, s -> x.tells(s, 0, 8)), 1, 0));
        test(16, "COINS (9).", () -> are("coins", answers(2, s -> x.tells(s, 0, 9)), 1, 0));
        test(16, "BAD: SHEET, no such COIN, what;", () -> {
            for (int what = 0; what < 10; what++) {
                for (int s : new int[] {-1, 4, FAR, FAR_BELOW}) {
                    is("sheet " + s, x.tells(s, 0, what), BAD);
                }
                for (int c : new int[] {-1, 1, 8, FAR, FAR_BELOW}) {
                    is("coin " + c, x.tells(0, c, what), BAD);
                    is("coin " + c + ", a missing sheet", x.tells(2, c, what), BAD);
                }
            }
            for (int what : new int[] {-1, 10, FAR, FAR_BELOW}) {
                is("what " + what, x.tells(0, 0, what), BAD);
                is("what " + what + ", a missing sheet", x.tells(2, 0, what), BAD);
            }
        });
        test(16, "-11.", () -> are("a missing sheet", answers(10, what -> x.tells(3, 0, what)),
                -11, -11, -11, -11, -11, -11, -11, -11, -11, -11));
    }

    private void filmCalls() {
        test(17, "A SHEET truly becomes WORTH of a COIN behind 0, .., n less 1 DAYS (n 0 .. 40; ints): n.", () -> {
            GoldTurnsBack x = oneCoin();
            coin(x, TRUE, 0, 50, 0, 0, 3);
            is("of 5", x.film(0, 0, 5), 5);
            is("as told", x.tells(0, 0, 0), NONE);
            is("otherwise than of the true one", x.tells(0, 1, 0), 2);
            is("it has 5", x.cell(0, 5, 0), OUTSIDE);
            is("a missing one, of 0", x.film(1, 0, 0), 0);
            is("it is missing no more", x.cell(1, 0, 0), OUTSIDE);
            x.sheet(1, 0, 40);
            is("one of bytes, of 40", x.film(1, 1, 40), 40);
            is("it is of ints", x.coins(1, INTS, 0, 0), 0);
            is("all are 50", x.tells(1, 1, 0), NONE);
            is("the last is there", x.cell(1, 39, 51), 1);
            is("the last was 50", x.tells(1, 1, 0), 39);
            is("of 1", x.film(1, 1, 1), 1);
            is("it has 1", x.cell(1, 1, 0), OUTSIDE);
            is("no day passed", x.told(0, 4), 5);
            is("no day passed", x.count(2), 0);
        });
        test(17, "A SHEET truly becomes WORTH of a COIN behind 0, .., n less 1 DAYS", () -> {
            GoldTurnsBack x = ruled("1", "day-1000", "0");
            coin(x, COIN, 0, 50, 0, 0, 0);
            x.set(0, 0, 998);
            x.film(0, 0, 4);
            // Whole on day 998, -1 on day 999, and so on: days pass 999 in thought.
            row(x, 1, INTS, 50, -1, 0, 1);
            is("by hand", x.tells(1, 0, 0), NONE);
            x.force(text(x, "turns 1;gives day-1000;spoils 1;"));
            is("what was filmed stays", x.tells(0, 0, 0), 3);
        });
        test(17, "BAD.", () -> {
            GoldTurnsBack x = oneCoin();
            for (int s : new int[] {-1, 4, FAR, FAR_BELOW}) {
                is("sheet " + s, x.film(s, 0, 1), BAD);
            }
            for (int c : new int[] {-1, 1, 8, FAR, FAR_BELOW}) {
                is("coin " + c, x.film(0, c, 1), BAD);
            }
            for (int n : new int[] {-1, 41, FAR, FAR_BELOW}) {
                is("n " + n, x.film(0, 0, n), BAD);
            }
            is("the sheet is missing still", x.tells(0, 0, 0), NOTHING);
        });
    }

    private void drawnCalls() {
        test(18, "DRAWN.", () -> {
            GoldTurnsBack x = agesShown();
            x.set(5, 1, 1);
            is("of 0", x.drawn(3, 0), 3 + 1 + 6 + 5 + 11 + 10 + 3);
            is("of 1: all draw, in order", x.drawn(3, 1), 50);
            is("of one who has none", x.drawn(3, 2), 0);
        });
        test(18, "-100000: OWNER.", () -> {
            GoldTurnsBack x = agesShown();
            for (int o : new int[] {-1, 4, FAR, FAR_BELOW}) {
                is("owner " + o, x.drawn(3, o), NO_ANSWER);
            }
        });
        test(19, "IN m seeds: part 0 above, 1 below the line, in lowest terms.", () -> {
            GoldTurnsBack x = valley();
            coin(x, COIN, 0, 50, 0, 0, 0);
            chanceIs(x, 0, 8, 0, 1, 1, 2);
            chanceIs(x, 0, 7, 0, 1, 3, 7);
            chanceIs(x, 0, 2, 0, 1, 0, 1);
            chanceIs(x, 0, 12, 0, 0, 1, 1);
        });
        test(19, "NO: m, OWNER, k, part.", () -> {
            GoldTurnsBack x = agesShown();
            for (int part = 0; part < 2; part++) {
                for (int m : new int[] {-1, 0, 21, FAR, FAR_BELOW}) {
                    is("m " + m, x.chance(0, m, 0, 0, part), NO);
                }
                for (int o : new int[] {-1, 4, FAR, FAR_BELOW}) {
                    is("owner " + o, x.chance(0, 1, o, 0, part), NO);
                }
                for (int k : new int[] {-1, 9, FAR, FAR_BELOW}) {
                    is("k " + k, x.chance(0, 1, 0, k, part), NO);
                }
            }
            for (int part : new int[] {-1, 2, FAR, FAR_BELOW}) {
                is("part " + part, x.chance(0, 1, 0, 0, part), NO);
            }
        });
    }

    private void imageCalls() {
        test(20, "AN IMAGE is kept: how many COINS.", () -> {
            GoldTurnsBack x = valley();
            is("of none", x.image(), 0);
            for (int i = 0; i < 8; i++) {
                x.coin(COIN, i, 1);
                is("of " + (i + 1), x.image(), i + 1);
            }
            x.set(1, 7, 2);
            is("a later one", x.image(), 8);
            x.set(1, 7, 3);
            x.back();
            is("the later one counts", x.told(7, 1), 2);
        });
        test(21, "All that it keeps is as in THE IMAGE: how many COINS.", () -> {
            GoldTurnsBack x = oneCoin();
            x.image();
            for (int times = 0; times < 3; times++) {
                x.day();
                x.day();
                x.coin(TRUE, 0, 1);
                is("back", x.back(), 1);
                is("its age", x.told(0, 4), 5);
                is("the day", x.count(2), 0);
                is("coins", x.count(0), 1);
            }
            is("back again at once", x.back(), 1);
        });
        test(21, "STATE: there is none.", () -> {
            GoldTurnsBack x = oneCoin();
            is("at first", x.back(), STATE);
            is("the coin is there still", x.count(0), 1);
            x.image();
            is("then", x.back(), 1);
        });
    }

    private void countCalls() {
        test(22, "How many: 0 COINS, 1 WHOLE, 2 DAY, 3 TEXTS, 4 bytes of THE TAPE, 5 THE RULE.", () -> {
            GoldTurnsBack x = valley();
            are("at first", answers(6, what -> x.count(what)), 0, 0, 0, 1, 0, 0);
            coin(x, COIN, 0, 1, 0, 7, 0);
            coin(x, COIN, 0, 1, 0, 6, 3);
            coin(x, TRUE, 0, 1, 0, 999, 1);
            x.set(0, 0, 999);
            text(x, "turns 3;gives 1;spoils 1;");
            x.feed(0);
            x.feed(255);
            are("then", answers(6, what -> x.count(what)), 3, 2, 999, 2, 2, 0);
            x.force(1);
            are("by the other text", answers(6, what -> x.count(what)), 3, 1, 999, 2, 2, 1);
        });
        test(22, "BAD.", () -> {
            for (int what : new int[] {-1, 6, FAR, FAR_BELOW}) {
                is("what " + what, valley().count(what), BAD);
            }
        });
    }
}
