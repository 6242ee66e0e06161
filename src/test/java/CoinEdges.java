/** Sentences of the Terms on DAY, OWNERS, COINS, KINDS, and of the promises 1 to 4. */
final class CoinEdges extends Edges {
    CoinEdges(Due due, Document document) {
        super(due, document);
    }

    @Override
    void all() {
        test(TERMS, "999; 0 at first).", this::dayIsBounded);
        test(TERMS, "OWNERS 0 .. 3.", this::ownersAreFour);
        test(TERMS, "COINS (8 at most, numbered from 0)", this::coinsAreEight);
        test(TERMS, "have a KIND: 0 COIN, 1 DUCAT under COIN, 2 GROAT under COIN, 3 CROWN under DUCAT, "
                + "4 WAGE under GROAT, 5 TRUE under COIN;", this::kindsAreSix);
        test(TERMS, "a NUMBER (0 .. 9),", () -> partIsBounded(1, 0, 9));
        test(TERMS, "a VALUE (1 .. 99),", () -> partIsBounded(2, 1, 99));
        test(TERMS, "a FIRST (0 .. 9: what it was first given for; 0 as one comes),", () -> comesWith0(3, 9));
        test(TERMS, "an AGE (0 .. 999: DAYS since it was paid last; 0 as one comes),", () -> comesWith0(4, 999));
        test(TERMS, "an OWNER (0 as one comes).", () -> comesWith0(5, 3));
        test(TERMS, "NONE is -1; NO, where a long is answered, -4611686018427387904.", this::noneAndNo);
        test(TERMS, "Quotients are cut toward 0.", this::quotientsAreCut);
        newObject();
        setting();
        coming();
        telling();
    }

    private void newObject() {
        test(1, "No COINS.", () -> {
            GoldTurnsBack x = valley();
            is("count(0)", x.count(0), 0);
            is("count(1)", x.count(1), 0);
            is("told(0, 1)", x.told(0, 1), NO_ANSWER);
            is("set(1, 0, 1)", x.set(1, 0, 1), BAD);
            is("pay(0, 1)", x.pay(0, 1), BAD);
            is("film(0, 0, 0)", x.film(0, 0, 0), BAD);
            is("taken(0, 0)", x.taken(0, 0), NOTHING);
            is("day()", x.day(), 0);
            for (int owner = 0; owner < 4; owner++) {
                int o = owner;
                are("has of " + o, answers(7, what -> x.has(o, what)), 0, 0, 0, 0, NONE, 0, 0);
            }
            is("run(0, 40, 0)", x.run(0, 40, 0), 0);
            is("exact(0, 0, 0)", x.exact(0, 0, 0), 0);
            is("exact(0, 1, 0)", x.exact(0, 1, 0), NONE);
            is("change(0, 1, 0)", x.change(0, 1, 0), NONE);
            is("change(0, 1, 1)", x.change(0, 1, 1), 0);
            is("drawn(3, 0)", x.drawn(3, 0), 0);
            is("chance(3, 20, 0, 1, 0)", x.chance(3, 20, 0, 1, 0), 0);
            is("image()", x.image(), 0);
            is("back()", x.back(), 0);
        });
    }

    private void setting() {
        test(2, "DAY (what 0; of does not matter),", () -> {
            GoldTurnsBack x = valley();
            is("of a coin that is none", x.set(0, 0, 5), 0);
            is("of -1", x.set(0, -1, 6), 5);
            is("of 8", x.set(0, 8, 7), 6);
            is("of one far off", x.set(0, FAR, 8), 7);
            is("of one far below", x.set(0, FAR_BELOW, 9), 8);
            is("count(2)", x.count(2), 9);
        });
        test(2, "NUMBER (1), VALUE (2), FIRST (3), AGE (4), OWNER (5) of a COIN becomes v: what it was.", () -> {
            GoldTurnsBack x = valley();
            x.coin(DUCAT, 2, 30);
            x.coin(WAGE, 8, 70);
            are("what it was", answers(5, i -> x.set(i + 1, 1, 3)), 8, 70, 0, 0, 0);
            are("v", answers(5, i -> x.told(1, i + 1)), 3, 3, 3, 3, 3);
            are("what it was then", answers(5, i -> x.set(i + 1, 1, 2)), 3, 3, 3, 3, 3);
        });
        test(2, "OWNER (5) of a COIN becomes v", () -> {
            GoldTurnsBack x = valley();
            x.coin(DUCAT, 2, 30);
            x.coin(WAGE, 8, 70);
            x.set(3, 1, 6);
            is("its owner was", x.set(5, 1, 3), 0);
            are("all else of it stays", answers(6, i -> x.told(1, i + 1)), 8, 70, 6, 0, 3, WAGE);
            are("the other one stays", answers(6, i -> x.told(0, i + 1)), 2, 30, 0, 0, 0, DUCAT);
            is("an owner is set, not paid: its age stays", x.set(4, 1, 900), 0);
            is("its owner was", x.set(5, 1, 2), 3);
            is("its age", x.told(1, 4), 900);
        });
        test(2, "BAD.", () -> {
            GoldTurnsBack x = valley();
            x.coin(COIN, 3, 20);
            for (int what : new int[] {-1, 6, 7, FAR, FAR_BELOW}) {
                is("what " + what, x.set(what, 0, 1), BAD);
            }
            for (int of : new int[] {-1, 1, 8, FAR, FAR_BELOW}) {
                for (int what = 1; what <= 5; what++) {
                    is("what " + what + " of " + of, x.set(what, of, 1), BAD);
                }
            }
            is("the day may be 1 of no coin", x.set(0, 1, 1), 0);
        });
    }

    private void coming() {
        test(3, "A COIN: its number.", () -> {
            GoldTurnsBack x = valley();
            is("the first", x.coin(COIN, 9, 1), 0);
            is("the second", x.coin(TRUE, 0, 99), 1);
            is("the third", x.coin(CROWN, 0, 1), 2);
        });
        test(3, "BAD; FULL.", () -> {
            GoldTurnsBack x = valley();
            for (int i = 0; i < 9; i++) {
                is("kind below", x.coin(-1, 0, 1), BAD);
                is("kind above", x.coin(6, 0, 1), BAD);
                is("number below", x.coin(0, -1, 1), BAD);
                is("number above", x.coin(0, 10, 1), BAD);
                is("value below", x.coin(0, 0, 0), BAD);
                is("value above", x.coin(0, 0, 100), BAD);
                is("coin " + i, x.coin(0, 0, 1), i < 8 ? i : FULL);
            }
            is("count(0)", x.count(0), 8);
        });
    }

    private void telling() {
        test(4, "What 0 .. 5 as of set(),", () -> {
            GoldTurnsBack x = valley();
            x.coin(GROAT, 4, 40);
            x.set(0, 77, 999);
            x.set(3, 0, 8);
            x.set(4, 0, 998);
            x.set(5, 0, 2);
            are("told", answers(6, what -> x.told(0, what)), 999, 4, 40, 8, 998, 2);
            is("of the day it does not matter of what", x.told(8, 0), 999);
            is("of the day it does not matter of what", x.told(FAR_BELOW, 0), 999);
        });
        test(4, "6 KIND, 7 TURNS, 8 GIVES, 9 GOES OFF, 10 whether WHOLE (1, 0), 11 WORTH.", () -> {
            GoldTurnsBack x = valley();
            coin(x, GROAT, 4, 40, 8, 2, 0);
            are("whole", answers(6, i -> x.told(0, i + 6)), GROAT, 3, 43, 4, 1, 40);
            x.set(4, 0, 3);
            are("just turned", answers(6, i -> x.told(0, i + 6)), GROAT, 3, 43, 4, 0, 43);
            x.set(4, 0, 4);
            are("a day behind that", answers(6, i -> x.told(0, i + 6)), GROAT, 3, 43, 4, 0, 39);
        });
        test(4, "-100000: none such.", () -> {
            GoldTurnsBack x = valley();
            x.coin(COIN, 0, 1);
            for (int what : new int[] {-1, 12, 13, FAR, FAR_BELOW}) {
                is("what " + what, x.told(0, what), NO_ANSWER);
            }
            for (int of : new int[] {-1, 1, 7, 8, FAR, FAR_BELOW}) {
                for (int what = 1; what < 12; what++) {
                    is("coin " + of + ", what " + what, x.told(of, what), NO_ANSWER);
                }
            }
        });
    }

    private void dayIsBounded() {
        GoldTurnsBack x = valley();
        is("at first", x.count(2), 0);
        is("at first", x.told(0, 0), 0);
        is("set(0, 0, 1000)", x.set(0, 0, 1000), BAD);
        is("set(0, 0, -1)", x.set(0, 0, -1), BAD);
        is("set(0, 0, 999)", x.set(0, 0, 999), 0);
        is("set(0, 0, far)", x.set(0, 0, FAR), BAD);
        is("set(0, 0, far below)", x.set(0, 0, FAR_BELOW), BAD);
        is("it is 999", x.count(2), 999);
        is("set(0, 0, 0)", x.set(0, 0, 0), 999);
        is("it is 0", x.told(0, 0), 0);
    }

    private void ownersAreFour() {
        GoldTurnsBack x = valley();
        x.coin(COIN, 0, 5);
        for (int owner = 0; owner < 4; owner++) {
            x.set(5, 0, owner);
            is("rich of " + owner, x.has(owner, 0), 5);
            is("in the purse of " + owner, x.run(owner, 0, 1), 1);
        }
        is("set(5, 0, 4)", x.set(5, 0, 4), BAD);
        is("set(5, 0, -1)", x.set(5, 0, -1), BAD);
        is("it is of 3 still", x.told(0, 5), 3);
        for (int owner : new int[] {-1, 4}) {
            is("pay", x.pay(0, owner), BAD);
            is("buy of one", x.buy(owner, 0, 0), BAD);
            is("buy of the other", x.buy(0, owner, 0), BAD);
            is("has", x.has(owner, 0), NO_ANSWER);
            is("run", x.run(owner, 0, 0), NO_ANSWER);
            is("exact", x.exact(owner, 0, 0), BAD);
            is("wise", x.wise(owner, 0, 0, 0), BAD);
            is("change of one", x.change(owner, 0, 0), NO_ANSWER);
            is("change of the other", x.change(0, owner, 0), NO_ANSWER);
            is("drawn", x.drawn(0, owner), NO_ANSWER);
            is("chance", x.chance(0, 1, owner, 0, 0), NO);
        }
    }

    private void coinsAreEight() {
        GoldTurnsBack x = valley();
        for (int i = 0; i < 8; i++) {
            is("coin", x.coin(COIN, i, 1), i);
        }
        is("a ninth", x.coin(COIN, 0, 1), FULL);
        is("count(0)", x.count(0), 8);
        is("the last", x.told(7, 1), 7);
        is("none is numbered 8", x.told(8, 1), NO_ANSWER);
        is("all are of owner 0", x.has(0, 1), 255);
    }

    private void kindsAreSix() {
        GoldTurnsBack x = valley();
        boolean[][] under = {
            {true, false, false, false, false, false},
            {true, true, false, false, false, false},
            {true, false, true, false, false, false},
            {true, true, false, true, false, false},
            {true, false, true, false, true, false},
            {true, false, false, false, false, true}};
        for (int kind = 0; kind < 6; kind++) {
            x.coin(kind, 7, 1);
            is("kind", x.told(kind, 6), kind);
            for (int k = 0; k < 6; k++) {
                is(kind + " taken for " + k, x.taken(kind, k), under[kind][k] ? 7 : OTHER_SORT);
            }
        }
        is("kind 6", x.coin(6, 7, 1), BAD);
        is("kind -1", x.coin(-1, 7, 1), BAD);
    }

    private void partIsBounded(int what, int least, int most) {
        GoldTurnsBack x = valley();
        is("the least comes", x.coin(COIN, what == 1 ? least : 5, what == 2 ? least : 5), 0);
        is("the most comes", x.coin(COIN, what == 1 ? most : 5, what == 2 ? most : 5), 1);
        is("less does not come", x.coin(COIN, what == 1 ? least - 1 : 5, what == 2 ? least - 1 : 5), BAD);
        is("more does not come", x.coin(COIN, what == 1 ? most + 1 : 5, what == 2 ? most + 1 : 5), BAD);
        is("the least is told", x.told(0, what), least);
        is("the most is told", x.told(1, what), most);
        setIsBounded(x, 0, what, least, most);
    }

    /** The part of the coin is the least when this begins. */
    private void setIsBounded(GoldTurnsBack x, int coin, int what, int least, int most) {
        is("set to the most", x.set(what, coin, most), least);
        for (int v : new int[] {least - 1, most + 1, FAR, FAR_BELOW}) {
            is("set to " + v, x.set(what, coin, v), BAD);
        }
        is("it stays", x.told(coin, what), most);
        is("set to the least", x.set(what, coin, least), most);
    }

    private void comesWith0(int what, int most) {
        GoldTurnsBack x = valley();
        x.coin(COIN, 5, 5);
        is("as it comes", x.told(0, what), 0);
        setIsBounded(x, 0, what, 0, most);
        x.image();
        x.coin(COIN, 5, 5);
        x.set(what, 1, most);
        x.back();
        is("another comes in its place", x.coin(COIN, 5, 5), 1);
        is("as it comes in another's place", x.told(1, what), 0);
    }

    private void noneAndNo() {
        is("NONE", GoldTurnsBack.NONE, -1);
        is("NO", GoldTurnsBack.NO, -4611686018427387904L);
        GoldTurnsBack x = valley();
        is("what to spend of nothing", x.has(0, 4), -1);
        is("a chance of no owner", x.chance(0, 1, 4, 0, 0), -4611686018427387904L);
    }

    private void quotientsAreCut() {
        GoldTurnsBack x = ruled("9", "0", "0");
        for (int number = 0; number < 8; number++) {
            coin(x, DUCAT, number, 1, 0, 0, 0);
        }
        are("9 and number by 2", answers(8, i -> x.told(i, 7)), 9, 9, 10, 10, 11, 11, 12, 12);
        GoldTurnsBack y = ruled("value", "0", "0");
        for (int value = 1; value < 9; value++) {
            coin(y, GROAT, 0, value + 1, 0, 0, 0);
        }
        are("half of 2 .. 9", answers(8, i -> y.told(i, 7)), 1, 1, 2, 2, 3, 3, 4, 4);
        GoldTurnsBack z = valley();
        long[] tax = new long[8];
        for (int i = 0; i < 8; i++) {
            z.coin(COIN, 0, 10);
            tax[i] = z.has(0, 6);
        }
        are("half of 1 .. 8 coins of 10", tax, 0, 10, 10, 20, 20, 30, 30, 40);
    }
}
