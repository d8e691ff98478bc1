import com.sun.management.ThreadMXBean;
import java.lang.management.ManagementFactory;

/** That calls make no objects, and that none throws or fails to end, whatever its arguments. */
public final class RoomTest {
    private static final int[] ODD = {
        Integer.MIN_VALUE, Integer.MIN_VALUE + 1, -1025, -10, -9, -4, -3, -2, -1, 0, 1, 2, 3, 4, 5, 7, 8, 9, 10, 11,
        31, 32, 33, 50, 51, 99, 100, 500, 501, 1023, 1024, 10000, 10001, 65536, 1 << 30, Integer.MAX_VALUE - 1, Integer.MAX_VALUE,
    };
    private static final Check check = new Check("RoomTest");
    private static long sink = 0;

    public static void main(String[] args) {
        for (int n : new int[] {1, 2, 4, 9, 10}) oddArguments(n);
        oneObjectIsSmall();
        callsMakeNothing();
        check.end();
    }

    private static NotLikeThem town(int n) {
        NotLikeThem x = new NotLikeThem();
        x.people(n);
        for (int p = 0; p < n; p++) {
            for (int q = 0; q < n; q++) x.tie(p, q, (p * 5 + q * 3) % 10);
            x.set(p, 0, p * p % 3);
            x.set(p, 1, p * 7 % 19 - 9);
        }
        return x;
    }

    private static void oddArguments(int n) {
        NotLikeThem x = town(n);
        for (int a : ODD) {
            one(x, a);
            for (int b : ODD) {
                two(x, a, b);
                for (int c : ODD) three(x, a, b, c);
            }
        }
        for (int a : ODD) {
            x.gain(a, 1, 1, 1, 1);
            x.gain(0, a, 1, 1, 1);
            x.gain(0, 1, a, 1, 1);
            x.gain(0, 1, 1, a, 1);
            x.gain(0, 1, 1, 1, a);
            x.order(a, 1, 1, 1);
            x.order(0, a, 1, 1);
            x.order(0, 1, a, 1);
            x.order(0, 1, 1, a);
        }
        check.isTrue("no call threw, " + n + " people", true);
    }

    private static void one(NotLikeThem x, int a) {
        sink += x.calm(a) + x.rings(a) + x.longest(a) + x.rest(a) + x.heat(a) + x.mays(a) + x.soon(a);
        sink += x.week(a) + x.maybe(a) + x.ways() + x.count(a) + x.hold(a > 0) + x.rests() + x.even();
        sink += x.settled() + x.witness() + x.turn() + x.turned();
    }

    private static void two(NotLikeThem x, int a, int b) {
        sink += x.about(a, b) + x.sees(a, b) + x.sum(a, b) + x.lone(a, b) + x.may(a, b) + x.likely(a, b, true);
        sink += x.likely(a, b, false);
    }

    private static void three(NotLikeThem x, int a, int b, int c) {
        if (c % 10000 != 0 || a == 1023) sink += x.after(a, b, c);
        sink += x.run(a, b, c) + x.ring(a, b, c) + x.asked(a, b, c);
        sink += x.tie(a, b, c) + x.set(a, b, c);
    }

    private static ThreadMXBean threads() {
        return (ThreadMXBean) ManagementFactory.getThreadMXBean();
    }

    private static void oneObjectIsSmall() {
        ThreadMXBean threads = threads();
        long before = threads.getCurrentThreadAllocatedBytes();
        NotLikeThem x = new NotLikeThem();
        long bytes = threads.getCurrentThreadAllocatedBytes() - before;
        sink += x.count(0);
        // The room holds 7.3 million elements; 512 objects of 14,000 would still fit.
        check.isTrue("one object takes " + bytes + " bytes", bytes < 70000);
    }

    private static void callsMakeNothing() {
        NotLikeThem x = town(10);
        ThreadMXBean threads = threads();
        for (int round = 0; round < 2; round++) everyCall(x);
        long before = threads.getCurrentThreadAllocatedBytes();
        for (int round = 0; round < 14; round++) everyCall(x);
        long bytes = threads.getCurrentThreadAllocatedBytes() - before;
        check.isTrue("500 calls made " + bytes + " bytes", bytes < 4096);
    }

    private static void everyCall(NotLikeThem x) {
        sink += x.people(10) + x.tie(0, 1, 2) + x.tie(1, 0, 2) + x.set(1, 0, 1) + x.set(2, 1, 3) + x.about(0, 2);
        sink += x.sees(0, 1) + x.sum(0, 7) + x.calm(7) + x.after(5, 1, 10000) + x.run(5, 0, 2) + x.rings(0);
        sink += x.ring(1, 0, 3) + x.longest(1) + x.rests() + x.rest(3) + x.even() + x.heat(0) + x.lone(2, 0);
        sink += x.settled() + x.witness() + x.turn() + x.turned() + x.hold(true) + x.may(5, 0) + x.mays(9);
        sink += x.soon(7) + x.likely(7, 4, true) + x.week(9) + x.week(10) + x.maybe(0) + x.ways() + x.take();
        sink += x.wipe() + x.asked(9, 1, 50) + x.gain(1, 50, 9, 8, 9) + x.order(0, 50, 1, 9) + x.count(1);
    }
}
