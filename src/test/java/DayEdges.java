/** Sentences on PURSE, RICH, DAYS, PAID, SPEND, GONE, TAX, and of the promises 8 to 12. */
final class DayEdges extends Edges {
    DayEdges(Due due, Document document) {
        super(due, document);
    }

    @Override
    void all() {
        test(TERMS, "PURSE of an OWNER: WHOLE COINS.", this::purses);
        test(TERMS, "RICH: WORTH of all one's COINS, together.", this::riches);
        test(TERMS, "A DAY, truly: each COIN's AGE is 1 more (999 at most); DAY is 1 more.", this::daysPass);
        test(TERMS, "PAID: a COIN goes to another OWNER, its AGE is 0; just if it is WHOLE.", this::paid);
        test(TERMS, "n DAYS (0 .. 40), in thought (there DAY may pass 999): RICH of one; how many are in one's PURSE.",
                this::daysInThought);
        spend();
        gone();
        tax();
        passing();
        paying();
        buying();
        having();
        running();
    }

    private void purses() {
        GoldTurnsBack x = valley();
        is("without coins", x.has(0, 1), 0);
        coin(x, COIN, 0, 5, 0, 6, 0);
        coin(x, COIN, 0, 5, 0, 7, 0);
        coin(x, COIN, 0, 5, 0, 6, 1);
        coin(x, TRUE, 0, 5, 0, 999, 0);
        is("whole ones of 0", x.has(0, 1), 1 + 8);
        is("whole ones of 1", x.has(1, 1), 4);
        is("of 2", x.has(2, 1), 0);
        x.set(4, 0, 7);
        x.set(4, 3, 0);
        is("one more has turned", x.has(0, 1), 8);
    }

    private void riches() {
        GoldTurnsBack x = valley();
        is("without coins", x.has(3, 0), 0);
        coin(x, COIN, 0, 50, 4, 8, 3);
        is("a turned one", x.has(3, 0), 18);
        coin(x, COIN, 0, 50, 0, 6, 3);
        is("and a whole one", x.has(3, 0), 68);
        coin(x, WAGE, 0, 99, 9, 3, 3);
        is("and one that gives less than 0", x.has(3, 0), 20);
        coin(x, WAGE, 0, 99, 9, 999, 3);
        is("less than 0 together", x.has(3, 0), -28);
        is("of others nothing", x.has(0, 0), 0);
    }

    private void daysPass() {
        GoldTurnsBack x = valley();
        coin(x, COIN, 0, 5, 0, 0, 0);
        coin(x, COIN, 0, 5, 0, 998, 1);
        coin(x, TRUE, 0, 5, 0, 999, 2);
        x.day();
        are("ages", answers(3, c -> x.told(c, 4)), 1, 999, 999);
        is("the day", x.count(2), 1);
        x.day();
        are("ages", answers(3, c -> x.told(c, 4)), 2, 999, 999);
        is("the day", x.count(2), 2);
        are("owners stay", answers(3, c -> x.told(c, 5)), 0, 1, 2);
    }

    private void paid() {
        GoldTurnsBack x = valley();
        coin(x, COIN, 4, 5, 3, 6, 2);
        coin(x, COIN, 4, 5, 3, 7, 2);
        is("a whole one", x.pay(0, 3), 2);
        are("it", answers(6, i -> x.told(0, i + 1)), 4, 5, 3, 0, 3, COIN);
        is("a turned one", x.pay(1, 3), STATE);
        are("it", answers(6, i -> x.told(1, i + 1)), 4, 5, 3, 7, 2, COIN);
    }

    private void daysInThought() {
        GoldTurnsBack x = ruled("1", "day-950", "0");
        coin(x, COIN, 0, 5, 0, 1, 0);
        x.set(0, 0, 999);
        is("day 999", x.run(0, 0, 0), 49);
        is("day 1000", x.run(0, 1, 0), 50);
        is("day 1039", x.run(0, 40, 0), 89);
        GoldTurnsBack y = ruled("1", "age-950", "0");
        coin(y, COIN, 0, 5, 0, 998, 0);
        are("an age is 999 at most, in thought too", answers(4, n -> y.run(0, n, 0)), 48, 49, 49, 49);
        is("an age is 999 at most, in thought too", y.run(0, 40, 0), 49);
        is("none passed truly", y.told(0, 4), 998);
        is("none passed truly", y.count(2), 0);
        GoldTurnsBack z = ruled("90*(day=1000)", "0", "0");
        coin(z, COIN, 0, 5, 0, 3, 0);
        z.set(0, 0, 999);
        are("in the purse on days 999, 1000, 1001", answers(3, n -> z.run(0, n, 1)), 0, 1, 0);
        is("n 41", z.run(0, 41, 1), NO_ANSWER);
        is("n -1", z.run(0, -1, 1), NO_ANSWER);
    }

    private void spend() {
        test(TERMS, "SPEND (one): the COIN of one's PURSE whose AGE is nearest that at which it TURNS;", () -> {
            GoldTurnsBack x = valley();
            coin(x, TRUE, 0, 5, 0, 990, 0);
            coin(x, COIN, 0, 5, 0, 1, 0);
            is("6 is nearer than 10", x.has(0, 4), 1);
            coin(x, DUCAT, 9, 5, 0, 6, 0);
            is("5 is nearer than 6", x.has(0, 4), 2);
            coin(x, COIN, 0, 5, 0, 7, 0);
            is("a turned one is in no purse", x.has(0, 4), 2);
            coin(x, COIN, 0, 5, 0, 6, 1);
            is("another's is not one's", x.has(0, 4), 2);
            coin(x, GROAT, 0, 5, 0, 2, 0);
            is("1 is nearer than 5", x.has(0, 4), 5);
            x.set(4, 0, 999);
            is("1000 less 999 is 1 too", x.has(0, 4), 0);
        });
        test(TERMS, "SPEND (one): the COIN of one's PURSE whose AGE is nearest that at which it TURNS; "
                + "of like ones the first; NONE.", () -> {
            GoldTurnsBack x = valley();
            is("an empty purse", x.has(0, 4), NONE);
            coin(x, COIN, 0, 5, 0, 7, 0);
            is("all has turned", x.has(0, 4), NONE);
            coin(x, COIN, 0, 5, 0, 5, 0);
            coin(x, GROAT, 0, 5, 0, 1, 0);
            coin(x, COIN, 0, 5, 0, 5, 0);
            is("three like ones", x.has(0, 4), 1);
            x.set(4, 1, 4);
            is("two like ones", x.has(0, 4), 2);
        });
    }

    private void gone() {
        test(TERMS, "GONE (one): behind how many DAYS (0 .. 40) nothing is in one's PURSE first; NONE.", () -> {
            GoldTurnsBack x = ruled("40", "9", "0");
            is("nothing is there now", x.has(0, 5), 0);
            coin(x, COIN, 0, 5, 0, 40, 0);
            is("it has turned now", x.has(0, 5), 0);
            x.set(4, 0, 39);
            is("behind 1", x.has(0, 5), 1);
            x.set(4, 0, 0);
            is("behind 40", x.has(0, 5), 40);
            x.force(text(x, "turns 41;gives 9;spoils 0;"));
            is("behind 41 is too far", x.has(0, 5), NONE);
            coin(x, COIN, 0, 5, 0, 30, 0);
            is("the last one counts", x.has(0, 5), NONE);
            x.set(5, 0, 1);
            is("that of another does not", x.has(0, 5), 11);
            x.force(text(x, "turns 90*(day<3 or 4<day);gives 9;spoils 0;"));
            is("gone on day 3, back on day 5", x.has(0, 5), 3);
            x.set(0, 0, 999);
            x.force(text(x, "turns 90*(day<1005);gives 9;spoils 0;"));
            is("day 1005", x.has(0, 5), 6);
        });
    }

    private void tax() {
        test(TERMS, "TAX (one): WORTH of half (cut) of all one's COINS, those of most WORTH, together.", () -> {
            GoldTurnsBack x = valley();
            is("of none", x.has(0, 6), 0);
            coin(x, COIN, 0, 30, 0, 0, 0);
            is("of one", x.has(0, 6), 0);
            coin(x, COIN, 0, 50, 4, 7, 0);
            is("of two, one of which is worth 20", x.has(0, 6), 30);
            coin(x, COIN, 0, 40, 0, 0, 0);
            is("of three", x.has(0, 6), 40);
            coin(x, COIN, 0, 99, 0, 0, 1);
            is("another's is not one's", x.has(0, 6), 40);
            coin(x, COIN, 0, 50, 9, 7, 0);
            is("of four, a turned one the most", x.has(0, 6), 45 + 40);
            coin(x, COIN, 0, 40, 0, 0, 0);
            is("of five", x.has(0, 6), 85);
            coin(x, COIN, 0, 40, 0, 0, 0);
            is("of six, three of them like ones", x.has(0, 6), 45 + 40 + 40);
            GoldTurnsBack y = valley();
            coin(y, WAGE, 0, 9, 2, 9, 0);
            coin(y, WAGE, 0, 9, 1, 9, 0);
            is("of two below 0", y.has(0, 6), -8);
            coin(y, COIN, 0, 9, 0, 9, 0);
            coin(y, WAGE, 0, 9, 2, 9, 0);
            is("0 and one below 0", y.has(0, 6), -8);
        });
    }

    private void passing() {
        test(8, "A DAY, truly: how many COINS turned in it.", () -> {
            GoldTurnsBack x = valley();
            is("without coins", x.day(), 0);
            coin(x, COIN, 0, 5, 0, 5, 0);
            coin(x, COIN, 0, 5, 0, 6, 1);
            coin(x, COIN, 0, 5, 0, 6, 2);
            coin(x, COIN, 0, 5, 0, 7, 3);
            coin(x, TRUE, 0, 5, 0, 999, 0);
            is("two of all owners'", x.day(), 2);
            is("one", x.day(), 1);
            is("none", x.day(), 0);
            GoldTurnsBack y = ruled("90*(day<2)+90*(3<day)", "0", "0");
            for (int i = 0; i < 8; i++) {
                coin(y, COIN, 0, 5, 0, 3, 0);
            }
            are("by the day: they are whole again on day 4", answers(4, i -> y.day()), 0, 8, 0, 0);
            is("whole on day 4", y.count(1), 8);
        });
        test(8, "STATE: DAY is 999.", () -> {
            GoldTurnsBack x = valley();
            coin(x, COIN, 0, 5, 0, 5, 0);
            x.set(0, 0, 998);
            is("day() of 998", x.day(), 0);
            is("the day", x.count(2), 999);
            is("day() of 999", x.day(), STATE);
            is("the day", x.count(2), 999);
            is("its age", x.told(0, 4), 6);
            is("it is whole", x.told(0, 10), 1);
            x.set(0, 0, 0);
            is("day() of 0", x.day(), 1);
        });
    }

    private void paying() {
        test(9, "A COIN is PAID, truly: whose it was.", () -> {
            GoldTurnsBack x = valley();
            coin(x, COIN, 0, 5, 0, 6, 0);
            is("from 0", x.pay(0, 3), 0);
            is("from 3", x.pay(0, 2), 3);
            is("from 2", x.pay(0, 1), 2);
            is("from 1", x.pay(0, 0), 1);
            is("its age", x.told(0, 4), 0);
        });
        test(9, "BAD: no such COIN, OWNER;", () -> {
            GoldTurnsBack x = valley();
            coin(x, COIN, 0, 5, 0, 7, 0);
            for (int c : new int[] {-1, 1, 8, FAR, FAR_BELOW}) {
                is("coin " + c, x.pay(c, 1), BAD);
            }
            for (int o : new int[] {-1, 4, FAR, FAR_BELOW}) {
                is("owner " + o + ", of a turned one too", x.pay(0, o), BAD);
            }
        });
        test(9, "STATE: it isn't WHOLE,", () -> {
            GoldTurnsBack x = valley();
            coin(x, COIN, 0, 5, 0, 7, 0);
            is("turned", x.pay(0, 1), STATE);
            is("whose it is", x.told(0, 5), 0);
            is("its age", x.told(0, 4), 7);
            x.set(4, 0, 6);
            is("whole", x.pay(0, 1), 0);
        });
        test(9, "or it is that one's.", () -> {
            GoldTurnsBack x = valley();
            coin(x, COIN, 0, 5, 0, 6, 2);
            is("to oneself", x.pay(0, 2), STATE);
            is("its age", x.told(0, 4), 6);
            x.set(4, 0, 7);
            is("turned, to oneself", x.pay(0, 2), STATE);
        });
    }

    private void buying() {
        test(10, "All of EXACT of one are PAID to another one, truly: how many COINS.", () -> {
            GoldTurnsBack x = withValues(2, 3, 5, 5, 10);
            for (int i = 0; i < 5; i++) {
                x.set(4, i, i);
            }
            is("a price of 0", x.buy(0, 1, 0), 0);
            is("the fewest, the least as bits", x.buy(0, 1, 15), 2);
            are("owners", answers(5, i -> x.told(i, 5)), 0, 0, 1, 0, 1);
            are("ages", answers(5, i -> x.told(i, 4)), 0, 1, 0, 3, 0);
            is("all that is left", x.buy(0, 3, 10), 3);
            are("owners", answers(5, i -> x.told(i, 5)), 3, 3, 1, 3, 1);
            is("a price of 0, of one who has none", x.buy(0, 3, 0), 0);
            GoldTurnsBack y = withValues(99, 99, 99, 99, 99, 99, 99, 99);
            is("all eight", y.buy(0, 3, 792), 8);
            is("all are the other's", y.has(3, 1), 255);
        });
        test(10, "BAD: no such two OWNERS,", () -> {
            GoldTurnsBack x = withValues(5);
            for (int o : new int[] {-1, 4, FAR, FAR_BELOW}) {
                is("owner " + o, x.buy(o, 0, 5), BAD);
                is("other " + o, x.buy(0, o, 5), BAD);
            }
        });
        test(10, "one and the same,", () -> {
            GoldTurnsBack x = withValues(5);
            for (int o = 0; o < 4; o++) {
                is("owner " + o, x.buy(o, o, 0), BAD);
            }
            is("who has it", x.buy(0, 0, 5), BAD);
        });
        test(10, "price;", () -> {
            GoldTurnsBack x = withValues(5);
            for (int price : new int[] {-1, 1000, FAR, FAR_BELOW}) {
                is("price " + price, x.buy(0, 1, price), BAD);
            }
            is("price 999", x.buy(0, 1, 999), STATE);
        });
        test(10, "STATE: there is no such set.", () -> {
            GoldTurnsBack x = withValues(5, 7, 6);
            x.set(4, 1, 7);
            x.set(5, 2, 1);
            is("7 has turned", x.buy(0, 1, 7), STATE);
            is("6 is another's", x.buy(0, 1, 6), STATE);
            is("4 is less than any", x.buy(0, 1, 4), STATE);
            is("11", x.buy(0, 1, 11), STATE);
            are("owners", answers(3, i -> x.told(i, 5)), 0, 0, 1);
            is("of one who has none", x.buy(3, 1, 1), STATE);
        });
    }

    private void having() {
        GoldTurnsBack x = valley();
        coin(x, COIN, 0, 40, 2, 9, 1);
        coin(x, COIN, 0, 30, 2, 2, 1);
        coin(x, WAGE, 0, 20, 2, 8, 1);
        coin(x, DUCAT, 4, 11, 2, 6, 1);
        coin(x, COIN, 0, 99, 2, 6, 2);
        test(11, "Of an OWNER: RICH (what 0),", () -> {
            are("rich", answers(4, o -> x.has(o, 0)), 0, 10 - 2 * 2 + 30 - 13 + 11, 99, 0);
        });
        test(11, "PURSE (1; bits),", () -> are("purses", answers(4, o -> x.has(o, 1)), 0, 2 + 8, 16, 0));
        test(11, "VALUES in it, together (2),", () -> are("values", answers(4, o -> x.has(o, 2)), 0, 41, 99, 0));
        test(11, "COINS that have turned (3; bits),",
                () -> are("turned", answers(4, o -> x.has(o, 3)), 0, 1 + 4, 0, 0));
        test(11, "SPEND (4; NONE),", () -> are("spend", answers(4, o -> x.has(o, 4)), NONE, 3, 4, NONE));
        test(11, "GONE (5; NONE),", () -> {
            are("gone", answers(4, o -> x.has(o, 5)), 0, 5, 1, 0);
            x.coin(TRUE, 0, 1);
            is("never", x.has(0, 5), NONE);
        });
        test(11, "TAX (6).", () -> are("tax", answers(4, o -> x.has(o, 6)), 0, 30 + 11, 0, 0));
        test(11, "-100000: OWNER, what.", () -> {
            for (int o : new int[] {-1, 4, FAR, FAR_BELOW}) {
                for (int what = 0; what < 7; what++) {
                    is("owner " + o, x.has(o, what), NO_ANSWER);
                }
            }
            for (int what : new int[] {-1, 7, FAR, FAR_BELOW}) {
                is("what " + what, x.has(1, what), NO_ANSWER);
            }
        });
    }

    private void running() {
        test(12, "n DAYS: RICH (what 0), how many are in one's PURSE (1).", () -> {
            GoldTurnsBack x = valley();
            coin(x, COIN, 0, 50, 8, 5, 2);
            coin(x, TRUE, 0, 7, 8, 999, 2);
            coin(x, COIN, 0, 50, 8, 0, 1);
            are("rich", answers(5, n -> x.run(2, n, 0)), 57, 57, 47, 45, 43);
            are("in the purse", answers(5, n -> x.run(2, n, 1)), 2, 2, 1, 1, 1);
            is("rich behind 40", x.run(2, 40, 0), 7);
            is("in the purse behind 40", x.run(2, 40, 1), 1);
            is("rich, of one who has none", x.run(0, 40, 0), 0);
            is("in the purse, of one who has none", x.run(0, 0, 1), 0);
        });
        test(12, "-100000: OWNER, n, what.", () -> {
            GoldTurnsBack x = withValues(5);
            for (int o : new int[] {-1, 4, FAR, FAR_BELOW}) {
                is("owner " + o, x.run(o, 0, 0), NO_ANSWER);
                is("owner " + o, x.run(o, 0, 1), NO_ANSWER);
            }
            for (int n : new int[] {-1, 41, FAR, FAR_BELOW}) {
                is("n " + n, x.run(0, n, 0), NO_ANSWER);
                is("n " + n, x.run(0, n, 1), NO_ANSWER);
            }
            for (int what : new int[] {-1, 2, FAR, FAR_BELOW}) {
                is("what " + what, x.run(0, 0, what), NO_ANSWER);
            }
        });
    }
}
