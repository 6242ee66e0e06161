/** Promises 8 to 12: day, pay, buy, has, run. */
public final class DaysTest {
    private static final Due due = new Due();

    public static void main(String[] args) {
        daysPass();
        daysEnd();
        coinsMayTurnByTheDay();
        paid();
        bought();
        had();
        spent();
        gone();
        taxed();
        ran();
        wrong();
        due.end();
    }

    private static void daysPass() {
        GoldTurnsBack x = new GoldTurnsBack();
        Valley.coin(x, 0, 0, 5, 1, 5, 0);
        Valley.coin(x, 0, 0, 5, 1, 6, 1);
        Valley.coin(x, 0, 0, 5, 1, 7, 2);
        Valley.coin(x, 5, 0, 5, 1, 999, 3);
        due.is("first day", x.day(), 1);
        due.is("second day", x.day(), 1);
        due.is("third day", x.day(), 0);
        due.is("count(2)", x.count(2), 3);
        due.are("ages", new long[] {x.told(0, 4), x.told(1, 4), x.told(2, 4), x.told(3, 4)}, 8, 9, 10, 999);
        due.is("whole", x.count(1), 1);
    }

    private static void daysEnd() {
        GoldTurnsBack x = new GoldTurnsBack();
        x.coin(0, 0, 5);
        x.set(0, 0, 998);
        due.is("day 999", x.day(), 0);
        due.is("no more", x.day(), Valley.STATE);
        due.is("age", x.told(0, 4), 1);
        due.is("day", x.told(0, 0), 999);
    }

    private static void coinsMayTurnByTheDay() {
        GoldTurnsBack x = Valley.ruled("turns 50*(day<2)+50*(3<day);gives 9;spoils 1;");
        x.coin(0, 0, 5);
        x.coin(0, 0, 6);
        due.is("day 1", x.day(), 0);
        due.is("day 2: all turn", x.day(), 2);
        due.is("day 3: none more", x.day(), 0);
        due.is("day 4: they are whole again", x.day(), 0);
        due.is("whole", x.count(1), 2);
    }

    private static void paid() {
        GoldTurnsBack x = new GoldTurnsBack();
        Valley.coin(x, 0, 0, 5, 3, 6, 2);
        Valley.coin(x, 0, 0, 5, 3, 7, 2);
        due.is("to another", x.pay(0, 1), 2);
        due.is("its owner", x.told(0, 5), 1);
        due.is("its age", x.told(0, 4), 0);
        due.is("its first", x.told(0, 3), 3);
        due.is("to the same", x.pay(0, 1), Valley.STATE);
        due.is("turned", x.pay(1, 0), Valley.STATE);
        due.is("it stays", x.told(1, 5), 2);
        due.is("it stays old", x.told(1, 4), 7);
        due.is("no such coin", x.pay(2, 0), Valley.BAD);
        due.is("no such coin", x.pay(-1, 0), Valley.BAD);
        due.is("no such owner", x.pay(1, 4), Valley.BAD);
        due.is("no such owner", x.pay(1, -1), Valley.BAD);
    }

    private static void bought() {
        GoldTurnsBack x = new GoldTurnsBack();
        int[] values = {5, 5, 10, 3, 7};
        for (int i = 0; i < values.length; i++) {
            Valley.coin(x, 0, 0, values[i], 0, i, 0);
        }
        due.is("no such sum", x.buy(0, 1, 4), Valley.STATE);
        due.is("nothing for nothing", x.buy(0, 1, 0), 0);
        due.is("by one coin", x.buy(0, 1, 10), 1);
        due.is("whose", x.told(2, 5), 1);
        due.is("how old", x.told(2, 4), 0);
        due.is("by the least two", x.buy(0, 3, 10), 2);
        due.is("whose", x.told(0, 5), 3);
        due.is("whose", x.told(1, 5), 3);
        due.is("how old", x.told(1, 4), 0);
        due.is("others stay", x.told(3, 5), 0);
        due.is("others stay old", x.told(3, 4), 3);
        due.is("3 and 7", x.buy(0, 1, 10), 2);
        due.is("no more", x.buy(0, 1, 10), Valley.STATE);
        due.is("one and the same", x.buy(1, 1, 0), Valley.BAD);
        due.is("price", x.buy(0, 1, 1000), Valley.BAD);
        due.is("price", x.buy(0, 1, -1), Valley.BAD);
        due.is("owner", x.buy(-1, 1, 0), Valley.BAD);
        due.is("other", x.buy(1, 4, 0), Valley.BAD);
    }

    private static long[] all(GoldTurnsBack x, int owner) {
        long[] answers = new long[7];
        for (int what = 0; what < 7; what++) {
            answers[what] = x.has(owner, what);
        }
        return answers;
    }

    private static void had() {
        GoldTurnsBack x = new GoldTurnsBack();
        Valley.coin(x, 0, 0, 40, 2, 9, 1);
        Valley.coin(x, 0, 0, 30, 2, 2, 1);
        Valley.coin(x, 4, 0, 20, 2, 8, 1);
        Valley.coin(x, 1, 4, 11, 2, 6, 1);
        Valley.coin(x, 0, 0, 99, 2, 6, 2);
        due.are("owner 1", all(x, 1), 6 + 30 - 13 + 11, 10, 41, 5, 3, 5, 41);
        due.are("owner 2", all(x, 2), 99, 16, 99, 0, 4, 1, 0);
        due.are("owner 0", all(x, 0), 0, 0, 0, 0, -1, 0, 0);
    }

    private static void spent() {
        GoldTurnsBack x = new GoldTurnsBack();
        Valley.coin(x, 5, 0, 1, 0, 998, 0);
        Valley.coin(x, 0, 0, 1, 0, 4, 0);
        Valley.coin(x, 0, 0, 1, 0, 5, 0);
        Valley.coin(x, 2, 0, 1, 0, 1, 0);
        Valley.coin(x, 0, 0, 1, 0, 9, 0);
        due.is("the first of like ones", x.has(0, 4), 0);
        x.set(4, 0, 0);
        due.is("2 is as near as 3", x.has(0, 4), 2);
        x.set(4, 3, 2);
        due.is("3 is nearer", x.has(0, 4), 3);
        x.set(4, 2, 6);
        due.is("2 is as near again", x.has(0, 4), 2);
    }

    private static void gone() {
        GoldTurnsBack x = Valley.ruled("turns 40;gives 1;spoils 1;");
        Valley.coin(x, 0, 0, 1, 0, 0, 0);
        due.is("behind 40", x.has(0, 5), 40);
        x.set(0, 0, 999);
        due.is("days pass 999 in thought", x.has(0, 5), 40);
        x.force(Valley.text(x, "turns 41;gives 1;spoils 1;"));
        due.is("behind 41: none", x.has(0, 5), Valley.NONE);
        x.force(Valley.text(x, "turns 90*(not day=1010);gives 1;spoils 1;"));
        due.is("on day 1010", x.has(0, 5), 11);
    }

    private static void taxed() {
        GoldTurnsBack x = new GoldTurnsBack();
        Valley.coin(x, 4, 0, 1, 9, 9, 0);
        due.is("half of one", x.has(0, 6), 0);
        Valley.coin(x, 4, 0, 1, 5, 9, 0);
        due.is("of two, less than 0", x.has(0, 6), -28);
        Valley.coin(x, 4, 0, 1, 1, 9, 0);
        due.is("of three", x.has(0, 6), -8);
        Valley.coin(x, 0, 0, 9, 1, 0, 0);
        due.is("of four", x.has(0, 6), 1);
        Valley.coin(x, 0, 0, 9, 1, 0, 0);
        Valley.coin(x, 0, 0, 9, 1, 0, 0);
        due.is("of six", x.has(0, 6), 27);
        x.set(4, 5, 6);
        due.is("of six, one of which turns tomorrow", x.has(0, 6), 27);
        Valley.coin(x, 0, 0, 30, 1, 0, 0);
        Valley.coin(x, 0, 0, 40, 1, 0, 0);
        due.is("of eight", x.has(0, 6), 88);
        due.is("rich of eight", x.has(0, 0), -48 - 28 - 8 + 27 + 70);
        due.is("purse of eight", x.has(0, 1), 255 - 7);
        x.set(4, 0, 0);
        x.set(2, 0, 99);
        due.is("of eight, the first the most", x.has(0, 6), 178);
        due.is("a day of eight", x.day(), 1);
        due.is("the eighth is older", x.told(7, 4), 1);
    }

    private static void ran() {
        GoldTurnsBack x = new GoldTurnsBack();
        x.set(0, 0, 990);
        Valley.coin(x, 0, 0, 50, 8, 5, 2);
        Valley.coin(x, 5, 0, 7, 8, 999, 2);
        int[] rich = {57, 57, 47, 45, 43};
        int[] purse = {2, 2, 1, 1, 1};
        for (int n = 0; n < rich.length; n++) {
            due.is("rich behind " + n, x.run(2, n, 0), rich[n]);
            due.is("purse behind " + n, x.run(2, n, 1), purse[n]);
        }
        due.is("rich behind 40", x.run(2, 40, 0), 7);
        due.is("nothing passed truly", x.told(0, 4), 5);
        due.is("nothing passed truly", x.count(2), 990);
        GoldTurnsBack y = Valley.ruled("turns 1;gives day-950;spoils age=999;");
        Valley.coin(y, 0, 0, 50, 0, 998, 0);
        y.set(0, 0, 998);
        due.is("the day passes 999", y.run(0, 0, 0), 48);
        due.is("the age does not", y.run(0, 3, 0), 0);
        y.force(Valley.text(y, "turns 1;gives age-day+90;spoils 0;"));
        due.is("age 999, day 1003", y.run(0, 5, 0), 86);
    }

    private static void wrong() {
        GoldTurnsBack x = new GoldTurnsBack();
        int[] far = {-1, 4, Integer.MIN_VALUE, Integer.MAX_VALUE};
        for (int owner : far) {
            due.is("has", x.has(owner, 0), Valley.NO_ANSWER);
            due.is("run", x.run(owner, 0, 0), Valley.NO_ANSWER);
        }
        due.is("has what", x.has(0, 7), Valley.NO_ANSWER);
        due.is("has what", x.has(0, -1), Valley.NO_ANSWER);
        due.is("run n", x.run(0, 41, 0), Valley.NO_ANSWER);
        due.is("run n", x.run(0, -1, 0), Valley.NO_ANSWER);
        due.is("run what", x.run(0, 0, 2), Valley.NO_ANSWER);
        due.is("run what", x.run(0, 0, -1), Valley.NO_ANSWER);
    }
}
