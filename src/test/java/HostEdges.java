/** Sentences on SHEETS, and of the promises 23 to 27. */
final class HostEdges extends Edges {
    private static final int BYTES = 0, SHORTS = 1, INTS = 2, MISSING = -1;
    private static final int FIRST = 3;

    HostEdges(Due due, Document document) {
        super(due, document);
    }

    @Override
    void all() {
        test(TERMS, "SHEETS 0 .. 3 are rows of numbers, or missing (as all are at first): "
                + "of sort 0 bytes, 1 shorts, 2 ints.", this::sheetsAreFour);
        sheetCalls();
        cellCalls();
        copyCalls();
        coinsCalls();
        takenCalls();
    }

    /** A valley whose coin 0 is worth its VALUE, less than 0 by FIRST 1, and just 0 by FIRST 2. */
    private static GoldTurnsBack scale() {
        GoldTurnsBack x = ruled("0", "value*(first=0)-value*(first=1)", "0");
        coin(x, COIN, 0, 1, 0, 9, 0);
        return x;
    }

    /** An item of -99 .. 99 of a sheet but the last, read by way of that one; else 100. */
    private static int item(GoldTurnsBack x, int sheet, int i) {
        for (int sort = BYTES; sort <= INTS; sort++) {
            x.sheet(3, sort, 1);
            if (x.copy(sheet, i, 3, 0, 1) == 1) {
                x.set(FIRST, 0, 2);
                if (x.tells(3, 0, 0) == NONE) {
                    return 0;
                }
                x.set(FIRST, 0, 1);
                int below = x.tells(3, 0, 7);
                x.set(FIRST, 0, 0);
                int above = x.tells(3, 0, 7);
                return above != NONE ? above : below != NONE ? -below : 100;
            }
        }
        return 100;
    }

    private void holds(GoldTurnsBack x, int sheet, long... items) {
        are("sheet " + sheet, answers(items.length, i -> item(x, sheet, i)), items);
        is("size of sheet " + sheet, x.cell(sheet, items.length, 0), OUTSIDE);
    }

    private void sheetsAreFour() {
        GoldTurnsBack x = valley();
        x.coin(COIN, 0, 1);
        for (int s = 0; s < 4; s++) {
            is("cell of " + s, x.cell(s, 0, 0), NOTHING);
            is("tells of " + s, x.tells(s, 0, 0), NOTHING);
            is("copy of " + s, x.copy(s, 0, s, 0, 0), NOTHING);
            is("coins of " + s, x.coins(s, BYTES, 0, 0), NOTHING);
        }
        for (int s = 0; s < 4; s++) {
            for (int sort = 0; sort < 3; sort++) {
                is("sheet", x.sheet(s, sort, 1), 1);
                for (int other = 0; other < 3; other++) {
                    is(sort + " taken for " + other, x.coins(s, other, 0, 0), other == sort ? 0 : OTHER_SORT);
                }
            }
        }
        for (int s : new int[] {-1, 4, FAR, FAR_BELOW}) {
            is("sheet " + s, x.sheet(s, INTS, 1), BAD);
            is("cell of " + s, x.cell(s, 0, 0), BAD);
            is("tells of " + s, x.tells(s, 0, 0), BAD);
            is("film of " + s, x.film(s, 0, 0), BAD);
            is("copy of " + s, x.copy(s, 0, 0, 0, 0), BAD);
            is("copy to " + s, x.copy(0, 0, s, 0, 0), BAD);
            is("coins of " + s, x.coins(s, INTS, 0, 0), BAD);
        }
    }

    private void sheetCalls() {
        test(23, "A SHEET becomes a row of n of a sort, all 0,", () -> {
            GoldTurnsBack x = scale();
            for (int sort = BYTES; sort <= INTS; sort++) {
                is("of 3", x.sheet(0, sort, 3), 1);
                holds(x, 0, 0, 0, 0);
                row(x, 0, sort, 4, 5, 6);
                holds(x, 0, 4, 5, 6);
                is("anew", x.sheet(0, sort, 3), 1);
                holds(x, 0, 0, 0, 0);
                row(x, 0, sort, 4, 5, 6);
                is("shorter", x.sheet(0, sort, 2), 1);
                is("longer", x.sheet(0, sort, 4), 1);
                holds(x, 0, 0, 0, 0, 0);
                is("of 0", x.sheet(0, sort, 0), 1);
                is("it has none, but is there", x.cell(0, 0, 1), OUTSIDE);
                is("of 40", x.sheet(0, sort, 40), 1);
                is("its last", x.cell(0, 39, 7), 1);
                is("its last", item(x, 0, 39), 7);
                is("no more", x.cell(0, 40, 7), OUTSIDE);
            }
        });
        test(23, "or missing (sort -1: n does not matter): 1.", () -> {
            GoldTurnsBack x = scale();
            for (int n : new int[] {0, 5, 40, 41, -1, FAR, FAR_BELOW}) {
                row(x, 0, INTS, 4, 5, 6);
                is("n " + n, x.sheet(0, MISSING, n), 1);
                is("it is missing", x.cell(0, 0, 1), NOTHING);
                is("missing again", x.sheet(0, MISSING, n), 1);
            }
            x.sheet(0, INTS, 3);
            holds(x, 0, 0, 0, 0);
        });
        test(23, "BAD: no such SHEET, sort; n above 40;", () -> {
            GoldTurnsBack x = scale();
            row(x, 0, INTS, 4, 5, 6);
            for (int s : new int[] {-1, 4, FAR, FAR_BELOW}) {
                is("sheet " + s, x.sheet(s, INTS, 1), BAD);
                is("sheet " + s + ", n below 0", x.sheet(s, INTS, -1), BAD);
                is("sheet " + s + " missing", x.sheet(s, MISSING, 1), BAD);
            }
            for (int sort : new int[] {-2, 3, FAR, FAR_BELOW}) {
                is("sort " + sort, x.sheet(0, sort, 1), BAD);
                is("sort " + sort + ", n below 0", x.sheet(0, sort, -1), BAD);
            }
            for (int n : new int[] {41, FAR}) {
                is("n " + n, x.sheet(0, INTS, n), BAD);
            }
            holds(x, 0, 4, 5, 6);
        });
        test(23, "-14.", () -> {
            GoldTurnsBack x = scale();
            row(x, 0, INTS, 4, 5, 6);
            for (int sort = BYTES; sort <= INTS; sort++) {
                is("n -1", x.sheet(0, sort, -1), BELOW_ZERO);
                is("n far below", x.sheet(0, sort, FAR_BELOW), BELOW_ZERO);
            }
            holds(x, 0, 4, 5, 6);
        });
    }

    private void cellCalls() {
        test(24, "Item i of a SHEET becomes v (of bytes, shorts its lowest 8, 16 bits): 1.", () -> {
            GoldTurnsBack x = scale();
            row(x, 0, BYTES, 99, 256 + 98, -256 + 97, 200, -99, 65536 + 5, FAR, FAR_BELOW, 512);
            holds(x, 0, 99, 98, 97, -56, -99, 5, -1, 0, 0);
            row(x, 1, SHORTS, 99, 65536 + 98, -65536 + 97, 65536 - 56, -99, FAR, FAR_BELOW, 256 + 98, 200);
            holds(x, 1, 99, 98, 97, -56, -99, -1, 0, 100, 100);
            row(x, 2, INTS, 99, -99, 0, 65536 + 98, 256 + 98, FAR, FAR_BELOW);
            holds(x, 2, 99, -99, 0, 100, 100, 100, 100);
            is("once more", x.cell(2, 1, 7), 1);
            holds(x, 2, 99, 7, 0, 100, 100, 100, 100);
        });
        test(24, "BAD: no such SHEET; -11; -12.", () -> {
            GoldTurnsBack x = scale();
            row(x, 0, INTS, 4, 5, 6);
            x.sheet(1, BYTES, 0);
            for (int s : new int[] {-1, 4, FAR, FAR_BELOW}) {
                is("sheet " + s, x.cell(s, 0, 1), BAD);
            }
            for (int i : new int[] {-1, 3, 39, 40, FAR, FAR_BELOW}) {
                is("item " + i, x.cell(0, i, 1), OUTSIDE);
                is("item " + i + " of none", x.cell(1, i, 1), OUTSIDE);
                is("item " + i + " of a missing sheet", x.cell(2, i, 1), NOTHING);
                is("item " + i + " of no sheet", x.cell(4, i, 1), BAD);
            }
            is("item 0 of none", x.cell(1, 0, 1), OUTSIDE);
            is("item 0 of a missing sheet", x.cell(2, 0, 1), NOTHING);
            holds(x, 0, 4, 5, 6);
        });
    }

    private void copyCalls() {
        test(25, "n numbers of a SHEET, from item i on, come to another one's item j on (as they were): n.", () -> {
            for (int sort = BYTES; sort <= INTS; sort++) {
                GoldTurnsBack x = scale();
                row(x, 0, sort, 1, 2, 3, 4, 5);
                row(x, 1, sort, 11, 12, 13);
                is("to another", x.copy(0, 3, 1, 1, 2), 2);
                holds(x, 1, 11, 4, 5);
                holds(x, 0, 1, 2, 3, 4, 5);
                is("up in itself", x.copy(0, 0, 0, 1, 4), 4);
                holds(x, 0, 1, 1, 2, 3, 4);
                is("down in itself", x.copy(0, 1, 0, 0, 4), 4);
                holds(x, 0, 1, 2, 3, 4, 4);
                is("onto itself", x.copy(0, 0, 0, 0, 5), 5);
                is("none", x.copy(0, 2, 1, 1, 0), 0);
                is("none, from just behind the last", x.copy(0, 5, 1, 3, 0), 0);
                holds(x, 0, 1, 2, 3, 4, 4);
                holds(x, 1, 11, 4, 5);
                x.sheet(2, sort, 0);
                is("none of none", x.copy(2, 0, 2, 0, 0), 0);
            }
        });
        test(25, "BAD: no such SHEET; -11;", () -> {
            GoldTurnsBack x = scale();
            row(x, 0, INTS, 1, 2, 3);
            for (int s : new int[] {-1, 4, FAR, FAR_BELOW}) {
                is("of sheet " + s, x.copy(s, 0, 0, 0, 1), BAD);
                is("to sheet " + s, x.copy(0, 0, s, 0, 1), BAD);
                is("of sheet " + s + ", the other is missing", x.copy(s, 0, 2, 0, 1), BAD);
                is("to sheet " + s + ", the one is missing", x.copy(2, 0, s, 0, 1), BAD);
            }
            is("of a missing one", x.copy(2, 0, 0, 0, 1), NOTHING);
            is("to a missing one", x.copy(0, 0, 2, 0, 1), NOTHING);
            is("of a missing one to itself", x.copy(2, 0, 2, 0, 0), NOTHING);
            is("none of a missing one", x.copy(2, 0, 0, 0, 0), NOTHING);
            is("n below 0, of a missing one", x.copy(2, 0, 0, 0, -1), NOTHING);
            is("outside, to a missing one", x.copy(0, 9, 2, 9, 9), NOTHING);
        });
        test(25, "-13: they are of unlike sorts;", () -> {
            GoldTurnsBack x = scale();
            for (int sort = BYTES; sort <= INTS; sort++) {
                row(x, sort, sort, 1, 2, 3);
            }
            for (int one = 0; one < 3; one++) {
                for (int other = 0; other < 3; other++) {
                    boolean same = one == other;
                    is(one + " to " + other, x.copy(one, 0, other, 0, 1), same ? 1 : OTHER_SORT);
                    is(one + " to " + other + ", none", x.copy(one, 0, other, 0, 0), same ? 0 : OTHER_SORT);
                    is(one + " to " + other + ", n below 0", x.copy(one, 0, other, 0, -1), same ? OUTSIDE : OTHER_SORT);
                    is(one + " to " + other + ", outside", x.copy(one, 9, other, 0, 1), same ? OUTSIDE : OTHER_SORT);
                }
            }
        });
        test(25, "-12 (also with n below 0).", () -> {
            GoldTurnsBack x = scale();
            row(x, 0, INTS, 1, 2, 3);
            row(x, 1, INTS, 4, 5);
            int[][] outside = {{0, 0, -1}, {0, 0, FAR_BELOW}, {-1, 0, 1}, {0, -1, 1}, {-1, 0, 0}, {0, -1, 0},
                {3, 0, 1}, {0, 2, 1}, {2, 0, 2}, {0, 1, 2}, {0, 0, 3}, {0, 0, 41}, {0, 0, FAR}, {1, 0, FAR},
                {FAR, 0, 1}, {0, FAR, 1}, {FAR, 0, FAR}, {FAR_BELOW, 0, 1}, {0, FAR_BELOW, 1}, {4, 0, 0},
                {0, 3, 0}, {FAR, 0, 0}, {0, FAR, 0}, {3, 2, 1}, {1, 1, -1}};
            for (int[] o : outside) {
                is("copy(0, " + o[0] + ", 1, " + o[1] + ", " + o[2] + ")", x.copy(0, o[0], 1, o[1], o[2]), OUTSIDE);
            }
            holds(x, 0, 1, 2, 3);
            holds(x, 1, 4, 5);
        });
    }

    private static long[] coinOf(GoldTurnsBack x, int c) {
        return new long[] {x.told(c, 6), x.told(c, 1), x.told(c, 2), x.told(c, 3), x.told(c, 4), x.told(c, 5)};
    }

    private void coinsCalls() {
        test(26, "COINS by a SHEET that is taken for one of a sort: from one on, three by three (as of coin()), "
                + "n of them (0 .. 8): how many came (others are left out).", () -> {
            for (int sort = BYTES; sort <= INTS; sort++) {
                comeBySheet(sort);
            }
            GoldTurnsBack y = valley();
            y.sheet(0, INTS, 24);
            for (int i = 0; i < 8; i++) {
                y.cell(0, 3 * i + 2, 10 + i);
            }
            is("eight", y.coins(0, INTS, 0, 8), 8);
            are("values", answers(8, c -> y.told(c, 2)), 10, 11, 12, 13, 14, 15, 16, 17);
            is("no room: left out", y.coins(0, INTS, 0, 8), 0);
            GoldTurnsBack z = valley();
            for (int i = 0; i < 7; i++) {
                z.coin(COIN, 0, 1);
            }
            row(z, 0, BYTES, 0, 0, 0, 0, 0, 5, 0, 0, 6);
            is("a wrong one, one, and no room for one", z.coins(0, BYTES, 0, 3), 1);
            is("it came last", z.told(7, 2), 5);
        });
        test(26, "BAD: no such SHEET, sort, n;", () -> {
            GoldTurnsBack x = valley();
            row(x, 0, INTS, 0, 0, 1);
            for (int s : new int[] {-1, 4, FAR, FAR_BELOW}) {
                is("sheet " + s, x.coins(s, INTS, 0, 1), BAD);
            }
            for (int sort : new int[] {-1, 3, FAR, FAR_BELOW}) {
                is("sort " + sort, x.coins(0, sort, 0, 1), BAD);
                is("sort " + sort + " of a missing one", x.coins(1, sort, 0, 1), BAD);
            }
            for (int n : new int[] {-1, 9, FAR, FAR_BELOW}) {
                is("n " + n, x.coins(0, INTS, 0, n), BAD);
                is("n " + n + " by another sort", x.coins(0, BYTES, 0, n), BAD);
                is("n " + n + " of a missing one", x.coins(1, INTS, 0, n), BAD);
            }
            is("none came", x.count(0), 0);
        });
        test(26, "-13;", () -> {
            GoldTurnsBack x = valley();
            for (int sort = BYTES; sort <= INTS; sort++) {
                row(x, 0, sort, 0, 0, 1);
                for (int other = BYTES; other <= INTS; other++) {
                    if (other != sort) {
                        is(sort + " taken for " + other, x.coins(0, other, 0, 1), OTHER_SORT);
                        is(sort + " taken for " + other + ", none", x.coins(0, other, 0, 0), OTHER_SORT);
                        is(sort + " taken for " + other + ", outside", x.coins(0, other, 9, 1), OTHER_SORT);
                    }
                }
            }
            is("none came", x.count(0), 0);
        });
        test(26, "-11;", () -> {
            GoldTurnsBack x = valley();
            for (int sort = BYTES; sort <= INTS; sort++) {
                is("missing", x.coins(0, sort, 0, 1), NOTHING);
                is("missing, none", x.coins(0, sort, 0, 0), NOTHING);
                is("missing, outside", x.coins(0, sort, -1, 1), NOTHING);
            }
        });
        test(26, "-12: what stood ahead came.", () -> {
            GoldTurnsBack x = valley();
            row(x, 0, SHORTS, 1, 2, 3, 4, 5, 6, 0, 0);
            is("two came, of the third an item is outside", x.coins(0, SHORTS, 0, 3), OUTSIDE);
            is("coins", x.count(0), 2);
            are("the first", coinOf(x, 0), 1, 2, 3, 0, 0, 0);
            are("the second", coinOf(x, 1), 4, 5, 6, 0, 0, 0);
            for (int from : new int[] {-1, -2, -3, 6, 7, 8, 40, FAR, FAR - 1, FAR - 2, FAR_BELOW}) {
                is("from " + from, x.coins(0, SHORTS, from, 1), OUTSIDE);
                is("from " + from + ", eight", x.coins(0, SHORTS, from, 8), OUTSIDE);
            }
            is("from 5, the last three are a wrong one", x.coins(0, SHORTS, 5, 1), 0);
            is("coins", x.count(0), 2);
            x.sheet(1, INTS, 0);
            is("a row of none", x.coins(1, INTS, 0, 1), OUTSIDE);
            is("none of a row of none", x.coins(1, INTS, 0, 0), 0);
        });
    }

    private void comeBySheet(int sort) {
        GoldTurnsBack x = valley();
        row(x, 0, sort, 9, 1, 2, 3, 6, 0, 1, 5, 9, 99, 0, 10, 1, 0, 0, 100, 0, 0, -1);
        is("none", x.coins(0, sort, 0, 0), 0);
        is("from 1 on, the second is left out", x.coins(0, sort, 1, 3), 2);
        are("the first", coinOf(x, 0), 1, 2, 3, 0, 0, 0);
        are("the second", coinOf(x, 1), 5, 9, 99, 0, 0, 0);
        is("number, value, value are wrong", x.coins(0, sort, 10, 3), 0);
        is("coins", x.count(0), 2);
        is("from 16 on, to the last item", x.coins(0, sort, 16, 1), 0);
    }

    private void takenCalls() {
        test(27, "A COIN taken for one of KIND k (0 .. 5), or one under that one (also by others between): "
                + "its NUMBER.", () -> {
            GoldTurnsBack x = valley();
            for (int kind = 0; kind < 6; kind++) {
                x.coin(kind, 9 - kind, 1);
                is("for its own", x.taken(kind, kind), 9 - kind);
                is("for a COIN", x.taken(kind, COIN), 9 - kind);
            }
            is("a CROWN for a DUCAT", x.taken(CROWN, DUCAT), 6);
            is("a WAGE for a GROAT", x.taken(WAGE, GROAT), 5);
            x.set(1, WAGE, 0);
            is("a NUMBER of 0", x.taken(WAGE, COIN), 0);
        });
        test(27, "BAD: k;", () -> {
            GoldTurnsBack x = valley();
            x.coin(COIN, 1, 1);
            for (int k : new int[] {-1, 6, FAR, FAR_BELOW}) {
                is("k " + k, x.taken(0, k), BAD);
                is("k " + k + " of no coin", x.taken(1, k), BAD);
            }
        });
        test(27, "-11: no such COIN;", () -> {
            GoldTurnsBack x = valley();
            is("of none", x.taken(0, 0), NOTHING);
            x.coin(COIN, 1, 1);
            for (int c : new int[] {-1, 1, 8, FAR, FAR_BELOW}) {
                for (int k = 0; k < 6; k++) {
                    is("coin " + c, x.taken(c, k), NOTHING);
                }
            }
        });
        test(27, "-13.", () -> {
            GoldTurnsBack x = valley();
            for (int kind = 0; kind < 6; kind++) {
                x.coin(kind, 1, 1);
            }
            int[][] others = {{COIN, DUCAT}, {COIN, TRUE}, {DUCAT, CROWN}, {DUCAT, GROAT}, {GROAT, WAGE},
                {CROWN, GROAT}, {CROWN, WAGE}, {WAGE, DUCAT}, {WAGE, TRUE}, {TRUE, DUCAT}, {TRUE, WAGE}};
            for (int[] o : others) {
                is(o[0] + " for " + o[1], x.taken(o[0], o[1]), OTHER_SORT);
            }
        });
    }
}
