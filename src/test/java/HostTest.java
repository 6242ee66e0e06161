/** Promises 23 to 27: sheet, cell, copy, coins, taken. */
public final class HostTest {
    private static final Due due = new Due();
    private static final int MOST = Integer.MAX_VALUE, LEAST = Integer.MIN_VALUE;

    public static void main(String[] args) {
        sheetsBecome();
        cellsBecome();
        copied();
        wrongCopies();
        coinsBySheets();
        wrongCoinsBySheets();
        takenFor();
        due.end();
    }

    private static void sheetsBecome() {
        GoldTurnsBack x = new GoldTurnsBack();
        x.coin(0, 0, 1);
        for (int sort = 0; sort < 3; sort++) {
            due.is("of 40", x.sheet(sort, sort, 40), 1);
            due.is("its last", x.cell(sort, 39, 5), 1);
            due.is("no more", x.cell(sort, 40, 5), Valley.OUTSIDE);
            due.is("of 2 then", x.sheet(sort, sort, 2), 1);
            due.is("its last", x.cell(sort, 1, 5), 1);
            due.is("no more", x.cell(sort, 2, 5), Valley.OUTSIDE);
            due.is("of 0", x.sheet(sort, sort, 0), 1);
            due.is("no more", x.cell(sort, 0, 5), Valley.OUTSIDE);
        }
        Valley.row(x, 0, 2, 1, 1, 1);
        due.is("it tells 1", x.tells(0, 0, 0), -1);
        x.sheet(0, 2, 3);
        due.is("all 0", x.tells(0, 0, 0), 0);
        due.is("n above 40", x.sheet(0, 2, 41), Valley.BAD);
        due.is("n far", x.sheet(0, 2, MOST), Valley.BAD);
        due.is("n below 0", x.sheet(0, 2, -1), Valley.BELOW_ZERO);
        due.is("n far below", x.sheet(0, 2, LEAST), Valley.BELOW_ZERO);
        due.is("sort", x.sheet(0, 3, -1), Valley.BAD);
        due.is("sort", x.sheet(0, -2, 0), Valley.BAD);
        due.is("sheet", x.sheet(4, 0, 0), Valley.BAD);
        due.is("sheet", x.sheet(-1, 0, -1), Valley.BAD);
        due.is("no such sheet is missing", x.sheet(4, -1, 0), Valley.BAD);
        due.is("it stays", x.cell(0, 2, 0), 1);
        due.is("missing, n does not matter", x.sheet(0, -1, 77), 1);
        due.is("it is missing", x.cell(0, 0, 0), Valley.NOTHING);
        due.is("missing again", x.sheet(0, -1, -77), 1);
    }

    private static void cellsBecome() {
        GoldTurnsBack x = new GoldTurnsBack();
        due.is("missing", x.cell(0, 0, 0), Valley.NOTHING);
        due.is("missing ahead of outside", x.cell(0, -1, 0), Valley.NOTHING);
        Valley.row(x, 0, 0, 256 + 12, 256 + 13, 5);
        due.holds("bytes", Valley.rowIs(x, 0, 12, 13, 5));
        Valley.row(x, 0, 1, 65536 + 12, -65536 + 13);
        due.holds("shorts", Valley.rowIs(x, 0, 12, 13));
        Valley.row(x, 0, 2, 12, 99);
        due.holds("ints", Valley.rowIs(x, 0, 12, 99));
        due.is("outside", x.cell(0, -1, 0), Valley.OUTSIDE);
        due.is("outside", x.cell(0, 2, 0), Valley.OUTSIDE);
        due.is("outside", x.cell(0, LEAST, 0), Valley.OUTSIDE);
        due.is("outside", x.cell(0, MOST, 0), Valley.OUTSIDE);
        due.is("sheet", x.cell(4, 0, 0), Valley.BAD);
        due.is("sheet", x.cell(-1, 0, 0), Valley.BAD);
    }

    private static void copied() {
        GoldTurnsBack x = new GoldTurnsBack();
        Valley.row(x, 0, 2, 1, 2, 3, 4, 5);
        Valley.row(x, 1, 2, 11, 12, 13);
        due.is("to another", x.copy(0, 3, 1, 1, 2), 2);
        due.holds("it has them", Valley.rowIs(x, 1, 11, 4, 5));
        due.is("up in itself", x.copy(0, 0, 0, 1, 4), 4);
        due.holds("as they were", Valley.rowIs(x, 0, 1, 1, 2, 3, 4));
        due.is("down in itself", x.copy(0, 1, 0, 0, 4), 4);
        due.holds("as they were", Valley.rowIs(x, 0, 1, 2, 3, 4, 4));
        due.is("none", x.copy(0, 0, 1, 0, 0), 0);
        due.is("none behind the last", x.copy(0, 5, 1, 3, 0), 0);
    }

    private static void wrongCopies() {
        GoldTurnsBack x = new GoldTurnsBack();
        Valley.row(x, 0, 2, 1, 2, 3);
        Valley.row(x, 1, 1, 1, 2, 3);
        Valley.row(x, 3, 2, 7, 8, 9);
        due.is("sheet", x.copy(4, 0, 0, 0, 0), Valley.BAD);
        due.is("other", x.copy(0, 0, -1, 0, 0), Valley.BAD);
        due.is("other ahead of missing", x.copy(2, 0, 4, 0, 0), Valley.BAD);
        due.is("missing", x.copy(2, 0, 0, 0, 1), Valley.NOTHING);
        due.is("missing", x.copy(0, 0, 2, 0, -1), Valley.NOTHING);
        due.is("unlike sorts", x.copy(0, 0, 1, 0, -1), Valley.OF_ANOTHER_SORT);
        due.is("unlike sorts, none", x.copy(0, 0, 1, 0, 0), Valley.OF_ANOTHER_SORT);
        int[][] outside = {{-1, 0, 1}, {0, -1, 1}, {0, 0, -1}, {0, 0, 4}, {1, 0, 3}, {0, 1, 3}, {4, 0, 0},
            {0, 4, 0}, {3, 0, 1}, {MOST, 0, 1}, {0, MOST, 1}, {1, 1, MOST}, {LEAST, 0, 0}, {0, LEAST, 1},
            {0, 0, LEAST}, {MOST, MOST, MOST}};
        for (int[] o : outside) {
            due.is("outside " + o[0] + " " + o[1] + " " + o[2], x.copy(0, o[0], 3, o[1], o[2]), Valley.OUTSIDE);
        }
        x.coin(0, 0, 7);
        due.is("nothing came", x.tells(3, 0, 0), 1);
    }

    private static void coinsBySheets() {
        for (int sort = 0; sort < 3; sort++) {
            GoldTurnsBack x = new GoldTurnsBack();
            Valley.row(x, 0, sort, 9, 1, 2, 3, 6, 0, 1, 5, 9, 99, 0, 0);
            due.is("two of three", x.coins(0, sort, 1, 3), 2);
            due.are("the first", new long[] {x.told(0, 6), x.told(0, 1), x.told(0, 2)}, 1, 2, 3);
            due.are("the next", new long[] {x.told(1, 6), x.told(1, 1), x.told(1, 2)}, 5, 9, 99);
            due.is("too far, but one came", x.coins(0, sort, 7, 3), Valley.OUTSIDE);
            due.is("it came", x.count(0), 3);
            due.is("none", x.coins(0, sort, 0, 0), 0);
            due.is("none from outside", x.coins(0, sort, 500, 0), 0);
            due.is("a wrong one", x.coins(0, sort, 0, 1), 0);
            due.is("just the last three", x.coins(0, sort, 9, 1), 0);
            due.is("one too far", x.coins(0, sort, 10, 1), Valley.OUTSIDE);
            for (int i = 0; i < 5; i++) {
                due.is("one more", x.coins(0, sort, 1, 1), 1);
            }
            due.is("no room: left out", x.coins(0, sort, 1, 2), 0);
            due.is("no room, outside", x.coins(0, sort, 1, 8), Valley.OUTSIDE);
            due.is("eight", x.count(0), 8);
        }
    }

    private static void wrongCoinsBySheets() {
        GoldTurnsBack x = new GoldTurnsBack();
        Valley.row(x, 0, 1, 0, 0, 1);
        due.is("sheet", x.coins(4, 1, 0, 1), Valley.BAD);
        due.is("sheet", x.coins(-1, 1, 0, 1), Valley.BAD);
        due.is("sort", x.coins(0, 3, 0, 1), Valley.BAD);
        due.is("sort", x.coins(0, -1, 0, 1), Valley.BAD);
        due.is("n", x.coins(0, 1, 0, 9), Valley.BAD);
        due.is("n", x.coins(0, 1, 0, -1), Valley.BAD);
        due.is("n ahead of the sort that is told", x.coins(0, 0, 0, 9), Valley.BAD);
        due.is("of another sort", x.coins(0, 0, 0, 1), Valley.OF_ANOTHER_SORT);
        due.is("of another sort, none", x.coins(0, 2, 0, 0), Valley.OF_ANOTHER_SORT);
        due.is("missing", x.coins(1, 2, 0, 0), Valley.NOTHING);
        for (int from : new int[] {-1, 1, -3, MOST, MOST - 1, LEAST}) {
            due.is("outside from " + from, x.coins(0, 1, from, 2), Valley.OUTSIDE);
        }
        due.is("none came", x.count(0), 0);
    }

    private static void takenFor() {
        GoldTurnsBack x = new GoldTurnsBack();
        int[] bits = {1, 1 + 2, 1 + 4, 1 + 2 + 8, 1 + 4 + 16, 1 + 32};
        for (int kind = 0; kind < 6; kind++) {
            x.coin(kind, 9 - kind, 1);
            for (int k = 0; k < 6; k++) {
                int want = (bits[kind] >> k & 1) == 1 ? 9 - kind : Valley.OF_ANOTHER_SORT;
                due.is(kind + " for " + k, x.taken(kind, k), want);
            }
        }
        due.is("no such coin", x.taken(6, 0), Valley.NOTHING);
        due.is("no such coin", x.taken(-1, 5), Valley.NOTHING);
        due.is("kind ahead of coin", x.taken(6, 6), Valley.BAD);
        due.is("kind", x.taken(0, -1), Valley.BAD);
    }
}
