/** Sentences on EXACT, OVER, WISE, CHANGE, and of the promises 13 to 15. */
final class BestEdges extends Edges {
    BestEdges(Due due, Document document) {
        super(due, document);
    }

    @Override
    void all() {
        exact();
        over();
        wise();
        change();
        exactCalls();
        wiseCalls();
        changeCalls();
    }

    private void exact() {
        test(TERMS, "EXACT (one, a price 0 .. 999): of all sets of COINS of one's PURSE "
                + "whose VALUES are just that, together,", () -> {
            GoldTurnsBack x = withValues(99, 99, 99, 99, 99, 99, 99, 99);
            is("price 0: no coin", x.exact(0, 0, 0), 0);
            is("all eight", x.exact(0, 792, 0), 255);
            is("793", x.exact(0, 793, 0), NONE);
            is("price 999", x.exact(0, 999, 0), NONE);
            is("price 1000", x.exact(0, 1000, 0), BAD);
            is("price -1", x.exact(0, -1, 0), BAD);
            x.set(4, 7, 7);
            is("one has turned", x.exact(0, 792, 0), NONE);
            is("the others", x.exact(0, 693, 0), 127);
            x.set(5, 0, 1);
            is("one is another's", x.exact(0, 693, 0), NONE);
            is("of that one", x.exact(1, 99, 0), 1);
            x.set(4, 0, 6);
            is("what turns tomorrow is whole today", x.exact(1, 99, 0), 1);
        });
        test(TERMS, "that of fewest; of like ones the least as bits; NONE.", () -> {
            GoldTurnsBack x = withValues(2, 3, 5, 1, 4, 10);
            is("5 by one, not by 2 and 3", x.exact(0, 5, 0), 4);
            is("10 by one", x.exact(0, 10, 0), 32);
            is("6: 2 and 4 are 17 as bits, 5 and 1 are 12", x.exact(0, 6, 0), 12);
            is("7: 2 and 5 are 5 as bits, 3 and 4 are 18", x.exact(0, 7, 0), 5);
            is("26", x.exact(0, 26, 0), NONE);
            GoldTurnsBack y = withValues(5, 5, 5);
            is("5", y.exact(0, 5, 0), 1);
            is("10", y.exact(0, 10, 0), 3);
            is("4", y.exact(0, 4, 0), NONE);
            is("1 of an empty purse", y.exact(2, 1, 0), NONE);
            is("0 of an empty purse", y.exact(2, 0, 0), 0);
        });
    }

    private void over() {
        test(TERMS, "OVER: of all whose VALUES are that or more that of least VALUE, together;", () -> {
            GoldTurnsBack x = withValues(9, 9, 20, 11, 40);
            is("0: no coin", x.exact(0, 0, 2), 0);
            is("9: just that", x.exact(0, 9, 2), 1);
            is("10: 11", x.exact(0, 10, 2), 8);
            is("12: 9 and 9", x.exact(0, 12, 2), 3);
            is("89: all", x.exact(0, 89, 2), 31);
            x.set(4, 3, 7);
            is("10: 11 has turned", x.exact(0, 10, 2), 3);
            x.set(5, 0, 1);
            is("10: a 9 is another's", x.exact(0, 10, 2), 4);
            x.set(4, 2, 6);
            is("10: what turns tomorrow is whole today", x.exact(0, 10, 2), 4);
        });
        test(TERMS, "of like ones the fewest, then the least as bits; NONE.", () -> {
            GoldTurnsBack x = withValues(4, 6, 10, 10);
            is("9: 10 by one, the first of two", x.exact(0, 9, 2), 4);
            is("19: 20 by two", x.exact(0, 19, 2), 12);
            is("31: none", x.exact(0, 31, 2), NONE);
            is("9 of 10, 4, 6: by one, though it is 1 as bits", withValues(10, 4, 6).exact(0, 9, 2), 1);
            is("9 of 5, 5, 10: by one, though it is 4 as bits", withValues(5, 5, 10).exact(0, 9, 2), 4);
            is("1 of an empty purse", x.exact(1, 1, 2), NONE);
            GoldTurnsBack y = withValues(1, 4, 2, 3);
            is("5: 1 and 4 are 3 as bits, 2 and 3 are 12", y.exact(0, 5, 2), 3);
            GoldTurnsBack z = withValues(10, 20, 30, 40);
            is("41: 10 and 40 are 9 as bits, 20 and 30 are 6", z.exact(0, 41, 2), 6);
        });
    }

    private void wise() {
        test(TERMS, "WISE (one, a price, n): of all sets of one's PURSE whose VALUES are that or more that without "
                + "which, PAID to nobody, one would be RICH most behind n DAYS;", () -> {
            GoldTurnsBack x = valley();
            coin(x, COIN, 0, 10, 9, 3, 0);
            coin(x, COIN, 0, 10, 1, 3, 0);
            coin(x, WAGE, 0, 10, 5, 1, 0);
            coin(x, TRUE, 0, 10, 5, 0, 0);
            coin(x, COIN, 0, 10, 6, 7, 0);
            coin(x, TRUE, 0, 10, 5, 0, 1);
            // Behind 4 days they are worth 45, 5, -28, 10, and the one that has turned 30 less 8.
            is("10", x.wise(0, 10, 4, 0), 4);
            is("rich then", x.wise(0, 10, 4, 1), 45 + 5 + 10 + 22);
            is("11", x.wise(0, 11, 4, 0), 2 + 4);
            is("rich then", x.wise(0, 11, 4, 1), 45 + 10 + 22);
            is("30", x.wise(0, 30, 4, 0), 2 + 4 + 8);
            is("40", x.wise(0, 40, 4, 0), 15);
            is("rich then", x.wise(0, 40, 4, 1), 22);
            is("41: what has turned is not paid", x.wise(0, 41, 4, 0), NONE);
            is("0, yet the wage is a burden", x.wise(0, 0, 4, 0), 4);
            is("0, now", x.wise(0, 0, 0, 0), 0);
            is("nobody was paid", x.told(2, 5), 0);
            x.set(4, 1, 6);
            is("what turns tomorrow is whole today", x.wise(0, 20, 0, 0), 3);
            x.set(4, 1, 3);
            x.set(0, 0, 999);
            is("behind 40 days of day 999", x.wise(0, 30, 40, 0), 1 + 2 + 4);
            is("rich then", x.wise(0, 30, 40, 1), 10);
        });
        test(TERMS, "RICH most behind n DAYS; of like ones the least as bits; NONE.", () -> {
            GoldTurnsBack x = withValues(4, 6, 10);
            is("9: 4 and 6 are 3 as bits, 10 is 4", x.wise(0, 9, 0, 0), 3);
            is("11: 14", x.wise(0, 11, 0, 0), 5);
            is("21", x.wise(0, 21, 0, 0), NONE);
            is("all is worth 0 behind 7 days", x.wise(0, 5, 7, 0), 2);
            is("all is worth 0 behind 7 days", x.wise(0, 0, 7, 0), 0);
            is("1 of an empty purse", x.wise(1, 1, 7, 0), NONE);
            is("0 of an empty purse", x.wise(1, 0, 7, 0), 0);
        });
    }

    private void change() {
        test(TERMS, "CHANGE (two OWNERS): the COIN of the one and that of the other "
                + "(10 times the one, and the other)", () -> {
            GoldTurnsBack x = ruled("14", "0", "0");
            coin(x, COIN, 0, 9, 0, 8, 3);
            for (int i = 1; i < 7; i++) {
                coin(x, TRUE, 0, 5, 0, 0, 1);
            }
            coin(x, COIN, 0, 4, 0, 9, 0);
            is("7 of 0 and 0 of 3", x.change(0, 3, 0), 70);
            is("both rich then", x.change(0, 3, 1), 13);
            is("0 of 3 and 7 of 0", x.change(3, 0, 0), 7);
            is("both rich then", x.change(3, 0, 1), 13);
            is("7 of 0 and a true one of 1", x.change(0, 1, 0), 71);
            is("both rich then", x.change(0, 1, 1), 6 * 5 + 4);
            is("a true one of 1 and 7 of 0", x.change(1, 0, 0), 17);
            is("both rich then", x.change(1, 0, 1), 6 * 5 + 4);
            GoldTurnsBack y = ruled("14", "0", "0");
            for (int i = 0; i < 5; i++) {
                coin(y, TRUE, 0, 5, 0, 0, 2);
            }
            coin(y, COIN, 0, 9, 0, 8, 0);
            coin(y, COIN, 0, 4, 0, 9, 1);
            is("5 of 0 and 6 of 1", y.change(0, 1, 0), 56);
            is("both rich then", y.change(0, 1, 1), 13);
            is("6 of 1 and 5 of 0", y.change(1, 0, 0), 65);
            is("both rich then", y.change(1, 0, 1), 13);
        });
        test(TERMS, "by whose being changed (PAID both ways; WHOLE ones) both RICH, together, "
                + "would be most behind 10 DAYS,", () -> {
            GoldTurnsBack x = ruled("14", "0", "0");
            coin(x, COIN, 0, 9, 0, 8, 0);
            coin(x, COIN, 0, 8, 0, 3, 0);
            coin(x, COIN, 0, 99, 0, 14, 0);
            coin(x, COIN, 0, 4, 0, 9, 1);
            coin(x, COIN, 0, 6, 0, 2, 1);
            // So, behind 10 days, only the 8 (13 days old) and the 6 (12 days old) are whole.
            is("9 and 4", x.change(0, 1, 0), 3);
            is("all but the turned one", x.change(0, 1, 1), 9 + 8 + 4 + 6);
            x.set(4, 1, 4);
            is("8 turns too, but 9 is more", x.change(0, 1, 0), 3);
            is("without the 8", x.change(0, 1, 1), 9 + 4 + 6);
            is("nothing is paid truly", x.told(0, 5), 0);
            is("nothing is paid truly", x.told(0, 4), 8);
            x.set(4, 0, 13);
            x.set(4, 3, 13);
            is("what turns tomorrow is whole today", x.change(0, 1, 0), 3);
            GoldTurnsBack y = ruled("11", "3*(day=1009)", "0");
            coin(y, COIN, 0, 5, 0, 5, 0);
            coin(y, COIN, 0, 5, 0, 0, 1);
            y.set(0, 0, 999);
            is("on day 1009", y.change(0, 1, 0), 1);
            is("on day 1009, both rich then", y.change(0, 1, 1), 10);
            is("on day 1009", y.change(1, 2, 1), 5);
            is("on day 1009, so", y.change(0, 2, 1), 3);
        });
        test(TERMS, "if more than so; of like ones the first; NONE.", () -> {
            GoldTurnsBack x = ruled("14", "0", "0");
            coin(x, COIN, 0, 9, 0, 0, 0);
            coin(x, COIN, 0, 9, 0, 3, 0);
            is("the other has none", x.change(0, 1, 0), NONE);
            coin(x, COIN, 0, 4, 0, 0, 1);
            coin(x, COIN, 0, 4, 0, 3, 1);
            is("just as so", x.change(0, 1, 0), NONE);
            is("as so", x.change(0, 1, 1), 26);
            x.set(4, 1, 4);
            is("1 and the first of the other", x.change(0, 1, 0), 12);
            x.set(4, 0, 4);
            is("the first of the one, the first of the other", x.change(0, 1, 0), 2);
            is("and back", x.change(1, 0, 0), 20);
            x.set(4, 3, 4);
            is("the first of the one, the one that gains", x.change(0, 1, 0), 3);
            GoldTurnsBack y = ruled("14", "8", "0");
            coin(y, COIN, 0, 9, 0, 4, 0);
            coin(y, COIN, 0, 4, 0, 4, 1);
            is("1 more, but 4 less", y.change(0, 1, 0), NONE);
            is("as so", y.change(0, 1, 1), 16);
            y.set(2, 1, 8);
            is("1 more", y.change(0, 1, 0), 1);
            is("17", y.change(0, 1, 1), 17);
            is("of two who have none", y.change(2, 3, 0), NONE);
            is("of two who have none", y.change(2, 3, 1), 0);
        });
    }

    private void exactCalls() {
        test(13, "EXACT (what 0; bits; NONE), how many (1; NONE),", () -> {
            GoldTurnsBack x = withValues(2, 3, 5);
            is("bits of 8", x.exact(0, 8, 0), 6);
            is("how many for 8", x.exact(0, 8, 1), 2);
            is("bits of 0", x.exact(0, 0, 0), 0);
            is("how many for 0", x.exact(0, 0, 1), 0);
            is("bits of 4", x.exact(0, 4, 0), NONE);
            is("how many for 4", x.exact(0, 4, 1), NONE);
        });
        test(13, "OVER (2; bits; NONE), its VALUE (3; NONE).", () -> {
            GoldTurnsBack x = withValues(2, 3, 5);
            is("bits over 4", x.exact(0, 4, 2), 4);
            is("its value", x.exact(0, 4, 3), 5);
            is("bits over 0", x.exact(0, 0, 2), 0);
            is("its value", x.exact(0, 0, 3), 0);
            is("bits over 9", x.exact(0, 9, 2), 7);
            is("its value", x.exact(0, 9, 3), 10);
            is("bits over 11", x.exact(0, 11, 2), NONE);
            is("its value", x.exact(0, 11, 3), NONE);
        });
        test(13, "BAD: OWNER, price, what.", () -> {
            GoldTurnsBack x = withValues(2, 3, 5);
            for (int what = 0; what < 4; what++) {
                for (int o : new int[] {-1, 4, FAR, FAR_BELOW}) {
                    is("owner " + o, x.exact(o, 0, what), BAD);
                }
                for (int price : new int[] {-1, 1000, FAR, FAR_BELOW}) {
                    is("price " + price, x.exact(0, price, what), BAD);
                }
                is("price 999", x.exact(0, 999, what), NONE);
            }
            for (int what : new int[] {-1, 4, FAR, FAR_BELOW}) {
                is("what " + what, x.exact(0, 0, what), BAD);
                is("what " + what + ", where there is none", x.exact(0, 999, what), BAD);
            }
        });
    }

    private void wiseCalls() {
        test(14, "WISE (what 0; bits; NONE), RICH then (1; -100000: none).", () -> {
            GoldTurnsBack x = withValues(2, 3, 5);
            is("for 4", x.wise(0, 4, 0, 0), 3);
            is("rich then", x.wise(0, 4, 0, 1), 5);
            is("for 10", x.wise(0, 10, 0, 0), 7);
            is("rich then", x.wise(0, 10, 0, 1), 0);
            is("for 11", x.wise(0, 11, 0, 0), NONE);
            is("rich then", x.wise(0, 11, 0, 1), -100000);
            is("for 999", x.wise(0, 999, 40, 1), -100000);
            GoldTurnsBack y = valley();
            coin(y, WAGE, 0, 1, 9, 9, 0);
            is("below 0", y.wise(0, 0, 0, 1), -48);
        });
        test(14, "BAD: OWNER, price, n, what.", () -> {
            GoldTurnsBack x = withValues(2, 3, 5);
            for (int what = 0; what < 2; what++) {
                for (int o : new int[] {-1, 4, FAR, FAR_BELOW}) {
                    is("owner " + o, x.wise(o, 0, 0, what), BAD);
                }
                for (int price : new int[] {-1, 1000, FAR, FAR_BELOW}) {
                    is("price " + price, x.wise(0, price, 0, what), BAD);
                }
                for (int n : new int[] {-1, 41, FAR, FAR_BELOW}) {
                    is("n " + n, x.wise(0, 0, n, what), BAD);
                    is("n " + n + ", where there is none", x.wise(0, 999, n, what), BAD);
                }
            }
            for (int what : new int[] {-1, 2, FAR, FAR_BELOW}) {
                is("what " + what, x.wise(0, 0, 0, what), BAD);
                is("what " + what + ", where there is none", x.wise(0, 999, 40, what), BAD);
            }
        });
    }

    private void changeCalls() {
        test(15, "CHANGE (what 0; NONE), both RICH then (1; as so, if none).", () -> {
            GoldTurnsBack x = ruled("14", "0-5", "0");
            coin(x, COIN, 0, 9, 0, 8, 0);
            coin(x, COIN, 0, 4, 0, 9, 1);
            coin(x, COIN, 0, 4, 0, 20, 2);
            is("0 and 1", x.change(0, 1, 0), 1);
            is("both rich then", x.change(0, 1, 1), 13);
            is("0 and 2", x.change(0, 2, 0), NONE);
            is("both rich, as so", x.change(0, 2, 1), -10);
            is("2 and 3, as so", x.change(2, 3, 1), -5);
        });
        test(15, "-100000: no such two OWNERS, one and the same, what.", () -> {
            GoldTurnsBack x = withValues(5);
            for (int what = 0; what < 2; what++) {
                for (int o : new int[] {-1, 4, FAR, FAR_BELOW}) {
                    is("one " + o, x.change(o, 0, what), NO_ANSWER);
                    is("other " + o, x.change(0, o, what), NO_ANSWER);
                    is("both " + o, x.change(o, o, what), NO_ANSWER);
                }
                for (int o = 0; o < 4; o++) {
                    is("one and the same " + o, x.change(o, o, what), NO_ANSWER);
                }
            }
            for (int what : new int[] {-1, 2, FAR, FAR_BELOW}) {
                is("what " + what, x.change(0, 1, what), NO_ANSWER);
            }
        });
    }
}
