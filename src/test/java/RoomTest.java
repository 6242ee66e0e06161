import java.lang.management.ManagementFactory;
import java.util.function.IntConsumer;

/** No call but text() may make anything, and an object is small: all calls of a run live in one room. */
public final class RoomTest {
    private static final Due due = new Due();
    private static final com.sun.management.ThreadMXBean BEAN =
            (com.sun.management.ThreadMXBean) ManagementFactory.getThreadMXBean();
    private static final int TIMES = 512;
    private static long sum;

    public static void main(String[] args) {
        GoldTurnsBack x = Valley.ruled("turns 7+age-age;gives first*5-(day<9);spoils 2*(owner<3)+number;");
        for (int i = 0; i < 8; i++) {
            Valley.coin(x, i % 6, i, 10 + i, i, i, i % 2);
        }
        Valley.row(x, 0, 2, 1, 2, 3);
        nothingIsMade("set", i -> sum += x.set(4, 0, i % 9));
        nothingIsMade("told", i -> sum += x.told(0, i % 12));
        nothingIsMade("feed", i -> sum += x.feed(32));
        nothingIsMade("has", i -> sum += x.has(0, i % 7));
        nothingIsMade("run", i -> sum += x.run(0, i % 41, i % 2));
        nothingIsMade("exact", i -> sum += x.exact(0, i, i % 4));
        nothingIsMade("wise", i -> sum += x.wise(0, i % 50, i % 41, i % 2));
        nothingIsMade("change", i -> sum += x.change(0, 1, i % 2));
        nothingIsMade("tells", i -> sum += x.tells(0, i % 8, i % 10));
        nothingIsMade("film", i -> sum += x.film(0, i % 8, i % 41));
        nothingIsMade("drawn", i -> sum += x.drawn(i, 0));
        nothingIsMade("chance", i -> sum += x.chance(i, 20, 0, 2, i % 2));
        nothingIsMade("image", i -> sum += x.image());
        nothingIsMade("back", i -> sum += x.back());
        nothingIsMade("sheet", i -> sum += x.sheet(i % 4, 2, i % 41));
        nothingIsMade("cell", i -> sum += x.cell(0, 0, i));
        nothingIsMade("copy", i -> sum += x.copy(0, 0, 1, 0, 1));
        nothingIsMade("coins", i -> sum += x.coins(0, 2, 0, 8));
        nothingIsMade("buy", i -> sum += x.buy(i % 2, 1 - i % 2, 10));
        nothingIsMade("pay", i -> sum += x.pay(i % 8, i % 4));
        nothingIsMade("day", i -> sum += x.day());
        long before = BEAN.getCurrentThreadAllocatedBytes();
        new GoldTurnsBack();
        due.holds("a new object is small", BEAN.getCurrentThreadAllocatedBytes() - before < 8000);
        theLastCallAnswers();
        due.end();
    }

    /** An object is used for at most 512 calls: the last of them is answered as any other. */
    private static void theLastCallAnswers() {
        GoldTurnsBack x = new GoldTurnsBack();
        x.coin(5, 0, 1);
        for (int call = 2; call < 512; call++) {
            due.is("call " + call, x.day(), 0);
        }
        due.is("call 512", x.told(0, 4), 510);
        GoldTurnsBack y = new GoldTurnsBack();
        for (int call = 1; call < 511; call++) {
            due.is("call " + call, y.text(), -100);
        }
        due.is("call 511", y.feed(32), 1);
        due.is("call 512", y.text(), -101);
    }

    private static void nothingIsMade(String name, IntConsumer calls) {
        long least = Long.MAX_VALUE;
        // The machine itself may make things when it first meets a call, so the least of some goes counts.
        for (int go = 0; go < 4; go++) {
            long before = BEAN.getCurrentThreadAllocatedBytes();
            for (int i = 0; i < TIMES; i++) {
                calls.accept(i);
            }
            least = Math.min(least, BEAN.getCurrentThreadAllocatedBytes() - before);
        }
        due.holds(name + " made " + least + " bytes", least < TIMES);
    }
}
