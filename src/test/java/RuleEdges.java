/** Sentences on TURNS, GIVES, GOES OFF by KINDS, on the bounds of what a TEXT tells, and on WHOLE and WORTH. */
final class RuleEdges extends Edges {
    private static final int TURNS = 7, GIVES = 8, GOES_OFF = 9, IS_WHOLE = 10, WORTH = 11;

    RuleEdges(Due due, Document document) {
        super(due, document);
    }

    @Override
    void all() {
        turns();
        gives();
        goesOff();
        test(TERMS, "(TURNS 1 .. 1000, GIVES -999 .. 999, GOES OFF 0 .. 99, else the bound: laid once, "
                + "on what comes out.)", this::boundsAreLaidOnce);
        test(TERMS, "Of a COIN: value: VALUE; first: FIRST; number: NUMBER; age: AGE; owner: OWNER; day: DAY.",
                this::namesOfACoin);
        test(TERMS, "turns (0 .. 99, else the bound),", () -> {
            told(TURNS, COIN, "100", 99);
            told(TURNS, COIN, "0-1", 1);
            told(TURNS, DUCAT, "100", 99 + 4);
            told(TURNS, DUCAT, "0-1", 4);
            told(TURNS, DUCAT, "9999", 99 + 4);
            told(TURNS, GROAT, "100", 49);
            told(TURNS, GROAT, "9999", 49);
            told(TURNS, CROWN, "100", 2 * (99 + 4));
            told(TURNS, CROWN, "0-9999", 2 * 4);
            told(TURNS, WAGE, "0-9999", 1);
        });
        test(TERMS, "gives (-99 .. 99, else the bound),", () -> {
            told(GIVES, COIN, "100", 99);
            told(GIVES, COIN, "0-100", -99);
            told(GIVES, DUCAT, "9999", 99);
            told(GIVES, DUCAT, "0-9999", -99);
            told(GIVES, GROAT, "100", 99 + 3);
            told(GIVES, GROAT, "0-100", -99 + 3);
            told(GIVES, CROWN, "100", 99 + 9 * 9);
            told(GIVES, CROWN, "0-100", -99 + 9 * 9);
            told(GIVES, WAGE, "100", -(99 + 3));
            told(GIVES, WAGE, "0-100", -(-99 + 3));
        });
        test(TERMS, "spoils (0 .. 99, else the bound).", () -> {
            told(GOES_OFF, COIN, "100", 99);
            told(GOES_OFF, COIN, "0-1", 0);
            told(GOES_OFF, GROAT, "0-1", 0);
            told(GOES_OFF, GROAT, "0-9999", 0);
            told(GOES_OFF, WAGE, "9999", 99);
        });
        test(TERMS, "TEXT 0, at first THE RULE, is: turns 7 ; gives first * 5 ; spoils 2 ;", this::textNone);
        wholeAndWorth();
    }

    /** A coin of NUMBER 9, VALUE 50, FIRST 9, by a rule whose three Es are all this one. */
    private void told(int what, int kind, String e, int want) {
        told(what, kind, 9, 9, e, want);
    }

    private void told(int what, int kind, int number, int first, String e, int want) {
        GoldTurnsBack x = ruled(e, e, e);
        coin(x, kind, number, 50, first, 0, 0);
        is("told(0, " + what + ") of kind " + kind + ", number " + number + ", first " + first + " by " + e,
                x.told(0, what), want);
    }

    private void turns() {
        test(TERMS, "TURNS (at which AGE, turns telling v): COIN: v;", () -> {
            told(TURNS, COIN, "1", 1);
            told(TURNS, COIN, "2", 2);
            told(TURNS, COIN, "99", 99);
        });
        test(TERMS, "DUCAT: NUMBER by 2 (cut) more than a COIN;", () -> {
            told(TURNS, DUCAT, 0, 0, "5", 5);
            told(TURNS, DUCAT, 1, 0, "5", 5);
            told(TURNS, DUCAT, 2, 0, "5", 6);
            told(TURNS, DUCAT, 9, 0, "5", 9);
            told(TURNS, DUCAT, 9, 0, "99", 103);
            told(TURNS, DUCAT, 3, 0, "0", 1);
            told(TURNS, DUCAT, 4, 0, "0", 2);
        });
        test(TERMS, "GROAT: half (cut) of a COIN's;", () -> {
            told(TURNS, GROAT, "2", 1);
            told(TURNS, GROAT, "3", 1);
            told(TURNS, GROAT, "4", 2);
            told(TURNS, GROAT, "98", 49);
            told(TURNS, GROAT, "99", 49);
        });
        test(TERMS, "CROWN: twice a DUCAT's;", () -> {
            told(TURNS, CROWN, 0, 0, "5", 10);
            told(TURNS, CROWN, 1, 0, "5", 10);
            told(TURNS, CROWN, 2, 0, "5", 12);
            told(TURNS, CROWN, 9, 0, "99", 206);
            told(TURNS, CROWN, 2, 0, "0", 2);
        });
        test(TERMS, "WAGE: as a GROAT, 3 at most;", () -> {
            told(TURNS, WAGE, "3", 1);
            told(TURNS, WAGE, "4", 2);
            told(TURNS, WAGE, "5", 2);
            told(TURNS, WAGE, "6", 3);
            told(TURNS, WAGE, "7", 3);
            told(TURNS, WAGE, "8", 3);
            told(TURNS, WAGE, "99", 3);
        });
        test(TERMS, "TRUE: 1000 (never).", () -> {
            told(TURNS, TRUE, "0", 1000);
            told(TURNS, TRUE, "99", 1000);
            GoldTurnsBack x = ruled("0", "1", "1");
            coin(x, TRUE, 0, 50, 3, 999, 0);
            is("whole at 999", x.told(0, IS_WHOLE), 1);
            is("worth at 999", x.told(0, WORTH), 50);
            is("behind 40 days more", x.run(0, 40, 1), 1);
        });
    }

    private void gives() {
        test(TERMS, "GIVES (what the thing is worth as it turns, gives telling v): COIN: v;", () -> {
            told(GIVES, COIN, "99", 99);
            told(GIVES, COIN, "0", 0);
            told(GIVES, COIN, "0-99", -99);
            GoldTurnsBack x = ruled("5", "33", "9");
            coin(x, COIN, 0, 50, 0, 5, 0);
            is("worth as it turns", x.told(0, WORTH), 33);
        });
        test(TERMS, "DUCAT: 0, if FIRST is 0, else as a COIN;", () -> {
            told(GIVES, DUCAT, 5, 0, "44", 0);
            told(GIVES, DUCAT, 5, 0, "0-44", 0);
            told(GIVES, DUCAT, 5, 1, "44", 44);
            told(GIVES, DUCAT, 5, 9, "0-44", -44);
        });
        test(TERMS, "GROAT: 3 more than a COIN;", () -> {
            told(GIVES, GROAT, "0", 3);
            told(GIVES, GROAT, "0-3", 0);
            told(GIVES, GROAT, "0-4", -1);
            told(GIVES, GROAT, "99", 102);
            told(GIVES, GROAT, "0-99", -96);
        });
        test(TERMS, "CROWN: NUMBER times FIRST more than a DUCAT;", () -> {
            told(GIVES, CROWN, 9, 9, "99", 180);
            told(GIVES, CROWN, 9, 9, "0-99", -18);
            told(GIVES, CROWN, 9, 0, "99", 0);
            told(GIVES, CROWN, 0, 9, "99", 99);
            told(GIVES, CROWN, 9, 1, "0-10", -1);
        });
        test(TERMS, "WAGE: 0 less a GROAT's; TRUE: 0.", () -> {
            told(GIVES, WAGE, "0", -3);
            told(GIVES, WAGE, "0-3", 0);
            told(GIVES, WAGE, "0-4", 1);
            told(GIVES, WAGE, "99", -102);
            told(GIVES, WAGE, "0-99", 96);
            told(GIVES, TRUE, "99", 0);
            told(GIVES, TRUE, "0-99", 0);
        });
    }

    private void goesOff() {
        test(TERMS, "GOES OFF (by how much each DAY behind that, spoils telling v): COIN: v;", () -> {
            told(GOES_OFF, COIN, "0", 0);
            told(GOES_OFF, COIN, "99", 99);
            GoldTurnsBack x = ruled("5", "33", "9");
            coin(x, COIN, 0, 50, 0, 4, 0);
            are("worth behind each day", answers(6, n -> x.run(0, n, 0)), 50, 33, 24, 15, 6, 0);
        });
        test(TERMS, "DUCAT: 0, if FIRST is above 6, else as a COIN;", () -> {
            told(GOES_OFF, DUCAT, 5, 0, "44", 44);
            told(GOES_OFF, DUCAT, 5, 6, "44", 44);
            told(GOES_OFF, DUCAT, 5, 7, "44", 0);
            told(GOES_OFF, DUCAT, 5, 9, "44", 0);
        });
        test(TERMS, "GROAT: twice a COIN's;", () -> {
            told(GOES_OFF, GROAT, "0", 0);
            told(GOES_OFF, GROAT, "49", 98);
            told(GOES_OFF, GROAT, "50", 99);
            told(GOES_OFF, GROAT, "99", 99);
        });
        test(TERMS, "CROWN: as a DUCAT;", () -> {
            told(GOES_OFF, CROWN, 5, 0, "44", 44);
            told(GOES_OFF, CROWN, 5, 6, "44", 44);
            told(GOES_OFF, CROWN, 5, 7, "44", 0);
        });
        test(TERMS, "WAGE: as a GROAT; TRUE: 0.", () -> {
            told(GOES_OFF, WAGE, "49", 98);
            told(GOES_OFF, WAGE, "50", 99);
            told(GOES_OFF, WAGE, 5, 7, "20", 40);
            told(GOES_OFF, TRUE, "99", 0);
        });
    }

    private void boundsAreLaidOnce() {
        told(TURNS, COIN, "0", 1);
        told(TURNS, GROAT, "0", 1);
        told(TURNS, GROAT, "1", 1);
        told(TURNS, WAGE, "0", 1);
        told(TURNS, WAGE, "1", 1);
        told(TURNS, DUCAT, 0, 0, "0", 1);
        // Were the bound laid on the DUCAT's first, twice 1 would be 2; on the COIN's, 1 and 1 would be 2.
        told(TURNS, CROWN, 0, 0, "0", 1);
        told(TURNS, CROWN, 1, 0, "0", 1);
        told(TURNS, DUCAT, 2, 0, "0", 1);
        told(TURNS, TRUE, "1", 1000);
        told(GIVES, CROWN, 9, 9, "99", 180);
        told(GOES_OFF, GROAT, "99", 99);
        told(GOES_OFF, WAGE, "98", 99);
    }

    private void namesOfACoin() {
        GoldTurnsBack x = ruled("value", "first*10+number", "owner*20+day");
        x.set(0, 0, 7);
        coin(x, COIN, 8, 31, 5, 17, 3);
        are("value, first and number, owner and day", answers(3, i -> x.told(0, i + 7)), 31, 58, 67);
        GoldTurnsBack y = ruled("age", "age-900", "age-900");
        coin(y, COIN, 8, 31, 5, 17, 3);
        is("age 17", y.told(0, TURNS), 17);
        y.set(4, 0, 999);
        are("age 999", answers(3, i -> y.told(0, i + 7)), 99, 99, 99);
        y.set(4, 0, 905);
        are("age 905", answers(3, i -> y.told(0, i + 7)), 99, 5, 5);
        GoldTurnsBack z = ruled("1", "day-950", "0");
        coin(z, COIN, 8, 31, 5, 17, 3);
        z.set(0, 0, 999);
        is("day 999", z.told(0, GIVES), 49);
        is("day 1039, in thought", z.run(3, 40, 0), 89);
    }

    private void textNone() {
        GoldTurnsBack x = valley();
        is("the rule", x.count(5), 0);
        is("texts", x.count(3), 1);
        is("the tape", x.count(4), 0);
        for (int first = 0; first < 8; first++) {
            coin(x, COIN, 0, 50, first, 0, 0);
            are("first " + first, new long[] {x.told(first, TURNS), x.told(first, GIVES), x.told(first, GOES_OFF)},
                    7, 5 * first, 2);
        }
        x.set(3, 0, 9);
        is("first 9", x.told(0, GIVES), 45);
    }

    private void wholeAndWorth() {
        test(TERMS, "A COIN is WHOLE, if its AGE is below that at which it TURNS.", () -> {
            GoldTurnsBack x = ruled("9", "0", "0");
            coin(x, COIN, 0, 50, 0, 0, 0);
            int[] ages = {0, 8, 9, 10, 999};
            are("ages 0, 8, 9, 10, 999", answers(5, i -> {
                x.set(4, 0, ages[i]);
                return x.told(0, IS_WHOLE);
            }), 1, 1, 0, 0, 0);
            GoldTurnsBack y = ruled("age+1", "0", "0");
            coin(y, COIN, 0, 50, 0, 98, 0);
            is("at 98 it turns at 99", y.told(0, IS_WHOLE), 1);
            y.set(4, 0, 99);
            is("at 99 it turns at 99", y.told(0, IS_WHOLE), 0);
        });
        test(TERMS, "WORTH of it: WHOLE: VALUE;", () -> {
            GoldTurnsBack x = ruled("9", "0-5", "9");
            coin(x, COIN, 0, 1, 0, 8, 0);
            is("the least value", x.told(0, WORTH), 1);
            x.set(2, 0, 99);
            is("the most value", x.told(0, WORTH), 99);
        });
        test(TERMS, "else, if it GIVES less than 0, just that;", () -> {
            GoldTurnsBack x = ruled("9", "0-1", "9");
            coin(x, COIN, 0, 50, 0, 9, 0);
            is("as it turns", x.told(0, WORTH), -1);
            x.set(4, 0, 999);
            is("at 999", x.told(0, WORTH), -1);
        });
        test(TERMS, "else that less what it GOES OFF times (AGE less that at which it TURNS), 0 at least.", () -> {
            GoldTurnsBack x = ruled("9", "20", "7");
            coin(x, COIN, 0, 50, 0, 0, 0);
            int[] ages = {9, 10, 11, 12, 13, 999};
            are("ages 9 .. 13, 999", answers(6, i -> {
                x.set(4, 0, ages[i]);
                return x.told(0, WORTH);
            }), 20, 13, 6, 0, 0, 0);
            GoldTurnsBack y = ruled("1", "0", "99");
            coin(y, COIN, 0, 50, 0, 1, 0);
            is("0 is not less than 0", y.told(0, WORTH), 0);
            y.set(4, 0, 999);
            is("0 at least", y.told(0, WORTH), 0);
            GoldTurnsBack z = ruled("1", "30", "0");
            coin(z, COIN, 0, 50, 0, 999, 0);
            is("what does not go off", z.told(0, WORTH), 30);
        });
    }
}
