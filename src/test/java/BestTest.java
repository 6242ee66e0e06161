/** Promises 13 to 15: exact, wise, change. */
public final class BestTest {
    private static final Due due = new Due();

    public static void main(String[] args) {
        exactByFewest();
        overByLeast();
        ofThePurseAlone();
        wiseByLeastLoss();
        wiseOfAll();
        changed();
        changedByOwner();
        notChanged();
        changedByTheDay();
        byThePurseOfToday();
        ofEight();
        wrong();
        due.end();
    }

    private static GoldTurnsBack with(int... values) {
        GoldTurnsBack x = new GoldTurnsBack();
        for (int v : values) {
            x.coin(0, 0, v);
        }
        return x;
    }

    private static long[] exact(GoldTurnsBack x, int owner, int price) {
        return new long[] {x.exact(owner, price, 0), x.exact(owner, price, 1), x.exact(owner, price, 2),
            x.exact(owner, price, 3)};
    }

    private static void exactByFewest() {
        GoldTurnsBack x = with(1, 2, 3, 4, 5, 6, 7, 10);
        due.are("0", exact(x, 0, 0), 0, 0, 0, 0);
        due.are("10 by one", exact(x, 0, 10), 128, 1, 128, 10);
        due.are("8: the least of two", exact(x, 0, 8), 4 + 16, 2, 20, 8);
        due.are("11: 1 and 10 are more bits than 5 and 6", exact(x, 0, 11), 16 + 32, 2, 48, 11);
        due.are("all", exact(x, 0, 38), 255, 8, 255, 38);
        due.are("too much", exact(x, 0, 39), -1, -1, -1, -1);
        due.are("999", exact(x, 0, 999), -1, -1, -1, -1);
        due.are("nobody's", exact(x, 1, 0), 0, 0, 0, 0);
        due.are("nobody's 1", exact(x, 1, 1), -1, -1, -1, -1);
    }

    private static void overByLeast() {
        GoldTurnsBack x = with(9, 9, 20, 11, 40);
        due.are("10: 11", exact(x, 0, 10), -1, -1, 8, 11);
        due.are("12: 18", exact(x, 0, 12), -1, -1, 3, 18);
        due.are("19: 20 by one, not by 9 and 11", exact(x, 0, 19), -1, -1, 4, 20);
        due.are("41", exact(x, 0, 41), -1, -1, 17, 49);
        due.are("30", exact(x, 0, 30), -1, -1, 12, 31);
        GoldTurnsBack y = with(8, 8, 8);
        due.are("9: the least of like ones", exact(y, 0, 9), -1, -1, 3, 16);
    }

    private static void ofThePurseAlone() {
        GoldTurnsBack x = with(5, 6, 7, 8);
        x.set(4, 0, 7);
        x.set(5, 1, 3);
        due.are("5 has turned", exact(x, 0, 5), -1, -1, 4, 7);
        due.are("6 is another's", exact(x, 0, 6), -1, -1, 4, 7);
        due.are("6 of that one", exact(x, 3, 6), 2, 1, 2, 6);
        due.are("15", exact(x, 0, 15), 12, 2, 12, 15);
    }

    private static long[] wise(GoldTurnsBack x, int owner, int price, int n) {
        return new long[] {x.wise(owner, price, n, 0), x.wise(owner, price, n, 1)};
    }

    private static void wiseByLeastLoss() {
        GoldTurnsBack x = new GoldTurnsBack();
        Valley.coin(x, 0, 0, 10, 9, 3, 0);
        Valley.coin(x, 0, 0, 10, 1, 3, 0);
        Valley.coin(x, 4, 0, 10, 5, 1, 0);
        Valley.coin(x, 5, 0, 10, 5, 0, 0);
        due.are("now all are like", wise(x, 0, 10, 0), 1, 30);
        due.are("now two", wise(x, 0, 11, 0), 3, 20);
        due.are("behind 4 days", wise(x, 0, 10, 4), 4, 45 + 5 + 10);
        due.are("behind 4 days two", wise(x, 0, 20, 4), 6, 55);
        due.are("behind 4 days three", wise(x, 0, 21, 4), 14, 45);
        due.are("all", wise(x, 0, 40, 4), 15, 0);
        due.are("more than all", wise(x, 0, 41, 4), -1, -100000);
        due.are("nothing, but the wage is a burden", wise(x, 0, 0, 4), 4, 60);
        due.are("nothing, now", wise(x, 0, 0, 0), 0, 40);
        due.are("no owner's", wise(x, 2, 0, 40), 0, 0);
        due.are("no owner's 1", wise(x, 2, 1, 40), -1, -100000);
    }

    private static void wiseOfAll() {
        GoldTurnsBack x = new GoldTurnsBack();
        Valley.coin(x, 0, 0, 10, 9, 9, 0);
        Valley.coin(x, 0, 0, 10, 9, 0, 0);
        Valley.coin(x, 0, 0, 10, 9, 0, 1);
        due.are("what has turned stays one's", wise(x, 0, 10, 1), 2, 39);
        due.are("it can't be paid", wise(x, 0, 20, 1), -1, -100000);
        x.set(0, 0, 999);
        due.are("days pass 999", wise(x, 0, 10, 40), 2, 0);
        due.is("nothing is paid truly", x.told(1, 5), 0);
    }

    private static long[] change(GoldTurnsBack x, int owner, int other) {
        return new long[] {x.change(owner, other, 0), x.change(owner, other, 1)};
    }

    private static void changed() {
        GoldTurnsBack x = Valley.ruled("turns 14;gives 0;spoils 0;");
        Valley.coin(x, 0, 0, 5, 0, 6, 0);
        Valley.coin(x, 0, 0, 9, 0, 2, 0);
        Valley.coin(x, 0, 0, 9, 0, 8, 0);
        Valley.coin(x, 0, 0, 9, 0, 8, 0);
        Valley.coin(x, 0, 0, 3, 0, 1, 1);
        Valley.coin(x, 0, 0, 4, 0, 9, 1);
        Valley.coin(x, 0, 0, 4, 0, 10, 1);
        Valley.coin(x, 0, 0, 99, 0, 14, 1);
        due.are("0 and 1", change(x, 0, 1), 25, 9 + 3 + 9 + 4);
        due.are("1 and 0", change(x, 1, 0), 52, 25);
        due.are("with one who has nothing", change(x, 0, 2), -1, 9);
        due.is("nothing is changed truly", x.told(2, 5), 0);
        due.is("nothing is changed truly", x.told(2, 4), 8);
        due.is("no day passed", x.count(2), 0);
    }

    private static void changedByOwner() {
        GoldTurnsBack x = Valley.ruled("turns 1;gives owner*10+day;spoils age-10;");
        Valley.coin(x, 1, 0, 5, 1, 0, 1);
        Valley.coin(x, 0, 0, 5, 0, 0, 2);
        Valley.coin(x, 1, 0, 5, 0, 0, 2);
        x.set(0, 0, 3);
        due.are("a ducat for nothing loses nothing with the owner", change(x, 1, 2), 2, 66);
        due.are("and back", change(x, 2, 1), 20, 66);
    }

    private static void notChanged() {
        GoldTurnsBack x = new GoldTurnsBack();
        Valley.coin(x, 5, 0, 5, 0, 0, 0);
        Valley.coin(x, 5, 0, 7, 0, 0, 1);
        due.are("no more than so", change(x, 0, 1), -1, 12);
        Valley.coin(x, 0, 0, 5, 9, 30, 0);
        Valley.coin(x, 0, 0, 5, 9, 30, 1);
        due.are("turned ones aren't changed", change(x, 0, 1), -1, 12);
    }

    private static void changedByTheDay() {
        GoldTurnsBack x = Valley.ruled("turns 11;gives 3*(day=10)+5*(day=20);spoils 0;");
        Valley.coin(x, 0, 0, 6, 0, 5, 0);
        Valley.coin(x, 0, 0, 4, 0, 0, 1);
        due.are("on day 10", change(x, 0, 1), 1, 10);
        x.set(0, 0, 10);
        due.are("on day 20: by just 1", change(x, 0, 1), 1, 10);
        x.set(2, 0, 5);
        due.are("on day 20: no more than so", change(x, 0, 1), -1, 9);
        x.set(0, 0, 999);
        due.are("on day 1009", change(x, 0, 1), 1, 9);
    }

    private static void byThePurseOfToday() {
        GoldTurnsBack x = with(5, 6);
        x.set(4, 0, 6);
        x.set(4, 1, 6);
        due.are("they turn tomorrow", exact(x, 0, 11), 3, 2, 3, 11);
        due.are("they turn tomorrow", wise(x, 0, 6, 3), 2, 0);
        x.set(5, 1, 1);
        due.are("they turn tomorrow", change(x, 0, 1), -1, 0);
        x.set(4, 0, 7);
        due.are("one has turned", exact(x, 0, 5), -1, -1, -1, -1);
    }

    private static void ofEight() {
        GoldTurnsBack x = with(1, 2, 4, 8, 16, 32, 64, 99);
        due.are("255 - 128 + 99", exact(x, 0, 226), 255, 8, 255, 226);
        due.are("99", exact(x, 0, 99), 128, 1, 128, 99);
        due.are("127", exact(x, 0, 127), 127 - 99 + 128, 4, 156, 127);
        due.are("wise now", wise(x, 0, 99, 0), 128 - 29, 127);
        x.set(5, 7, 3);
        x.set(3, 7, 9);
        due.are("the eighth of another", change(x, 0, 3), -1, 39);
        due.is("buy of the eighth", x.buy(3, 0, 99), 1);
        due.is("it is one's again", x.told(7, 5), 0);
    }

    private static void wrong() {
        GoldTurnsBack x = with(5);
        int[] owners = {-1, 4, Integer.MIN_VALUE, Integer.MAX_VALUE};
        for (int o : owners) {
            due.is("exact", x.exact(o, 0, 0), Valley.BAD);
            due.is("wise", x.wise(o, 0, 0, 0), Valley.BAD);
            due.is("change", x.change(o, 0, 0), Valley.NO_ANSWER);
            due.is("change", x.change(0, o, 0), Valley.NO_ANSWER);
        }
        for (int price : new int[] {-1, 1000, Integer.MIN_VALUE, Integer.MAX_VALUE}) {
            due.is("exact", x.exact(0, price, 0), Valley.BAD);
            due.is("wise", x.wise(0, price, 0, 0), Valley.BAD);
        }
        due.is("exact what", x.exact(0, 0, 4), Valley.BAD);
        due.is("exact what", x.exact(0, 0, -1), Valley.BAD);
        due.is("wise n", x.wise(0, 0, 41, 0), Valley.BAD);
        due.is("wise n", x.wise(0, 0, -1, 0), Valley.BAD);
        due.is("wise what", x.wise(0, 0, 0, 2), Valley.BAD);
        due.is("wise what, none", x.wise(0, 6, 0, -1), Valley.BAD);
        due.is("one and the same", x.change(3, 3, 1), Valley.NO_ANSWER);
        due.is("change what", x.change(0, 1, 2), Valley.NO_ANSWER);
        due.is("change what", x.change(0, 1, -1), Valley.NO_ANSWER);
    }
}
