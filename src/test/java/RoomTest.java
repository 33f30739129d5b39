import java.lang.management.ManagementFactory;

/** All calls of a run live in one room: a desk is small, and its calls make no objects. */
public final class RoomTest {
    private static final String TEXT = "land a 3;land b 2;land c 4;land d 3;land e 1;land f 0;issue i;issue j;issue k;"
            + "fact ta a;fact tb b;fact tc c;fact td d;fact te e;rule a i tb whole;rule b i tc whole;rule c i td whole;"
            + "rule d i te whole;rule e i ta whole;rule f j te whole;law a i 5;law b j 1;deed p i;deed q j k;";

    private static final com.sun.management.ThreadMXBean BEAN =
            (com.sun.management.ThreadMXBean) ManagementFactory.getThreadMXBean();

    public static void main(String[] args) {
        long self = Thread.currentThread().getId();
        long sum = 0;
        long calls = Long.MAX_VALUE;
        long making = Long.MAX_VALUE;
        for (int turn = 0; turn < 5; turn++) {
            // A new one each time: of calls behind the 512th nothing is promised.
            RenvoiDesk x = Check.told(TEXT);
            long start = BEAN.getThreadAllocatedBytes(self);
            sum += everyCall(x);
            calls = Math.min(calls, BEAN.getThreadAllocatedBytes(self) - start);
            start = BEAN.getThreadAllocatedBytes(self);
            sum += new RenvoiDesk().count(0);
            making = Math.min(making, BEAN.getThreadAllocatedBytes(self) - start);
        }
        Check.due("calls were made: " + sum, sum != 0, true);
        Check.due("bytes that calls take: " + calls, calls < 1000, true);
        Check.due("bytes that a new desk takes: " + making, making < 16_000, true);
        Check.finish();
    }

    private static long everyCall(RenvoiDesk x) {
        long sum = 0;
        for (int a = 0; a < 4; a++) {
            sum += x.land(a, 1) + x.fact(a) + x.rule(a, 0, 0) + x.inner(a, 1) + x.head(a) + x.deed(a);
            sum += x.road(a, 0, 1) + x.ends(a, 0, 1) + x.trapped(a) + x.loop(a, 0) + x.comes(a, 0, 3) + x.answer(a, 0, -1);
            sum += x.unlike(a, 0) + x.most(a, 0) + x.shop(a, 0) + x.tally(a) + x.stands(a, 0) + x.where(a) + x.limps();
            sum += x.best(a, 0) + x.fewest(a) + x.tie(a, 1) + x.think(a, 3) + x.say(a, 1, 1) + x.join(a, 0) + x.cut(a);
            sum += x.point(a, 1, 1, true) && x.mirror(a, 1) && x.keep(0, false) ? 1 : 0;
            sum += x.undo() + x.count(4) + (x.keep(0, true) ? 1 : 0);
            sum += x.feed(1818324580, 543236145, 996958574, 1679843616, 825950208) + x.desk(15);
        }
        return sum;
    }
}
