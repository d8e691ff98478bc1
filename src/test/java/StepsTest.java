/** Promises 7 to 13: sums, who is calm, steps, runs and rings. */
public final class StepsTest {
    private static final int UNKNOWN = -1, OUTSIDE = -2;
    private static final Check check = new Check("StepsTest");

    public static void main(String[] args) {
        sum();
        calm();
        after();
        run();
        ringsOfThree();
        ringsOfChain();
        ringsAreNumberedByLeastDress();
        ringRefuses();
        changesAreSeen();
        check.end();
    }

    /** 0 flees 1, 1 follows 2, 2 follows 0. */
    private static NotLikeThem three() {
        NotLikeThem x = new NotLikeThem();
        x.people(3);
        x.tie(0, 1, 1);
        x.tie(1, 2, 1);
        x.tie(2, 0, 1);
        x.set(0, 0, 1);
        return x;
    }

    /** Ten in a row, each follows the one ahead; the first is firm. */
    private static NotLikeThem chain() {
        NotLikeThem x = new NotLikeThem();
        x.people(10);
        for (int p = 1; p < 10; p++) x.tie(p, p - 1, 1);
        x.set(0, 0, 2);
        return x;
    }

    private static void sum() {
        NotLikeThem x = new NotLikeThem();
        x.tie(0, 1, 9);
        x.tie(0, 2, 3);
        x.tie(0, 3, 1);
        x.set(0, 1, -4);
        x.tie(1, 0, 5);
        check.due("sum(0, 0)", x.sum(0, 0), -17);
        check.due("sum(0, 14)", x.sum(0, 14), 9);
        check.due("sum(0, 15)", x.sum(0, 15), 9);
        check.due("sum(0, 2)", x.sum(0, 2), 1);
        check.due("sum(0, 12)", x.sum(0, 12), -9);
        check.due("sum(1, 1)", x.sum(1, 1), 5);
        check.due("sum(1, 14)", x.sum(1, 14), -5);
        check.due("sum(3, 7)", x.sum(3, 7), 0);
        // The SUM does not look at the KIND.
        for (int kind = 0; kind < 4; kind++) {
            x.set(0, 0, kind);
            check.due("sum(0, 2) as kind " + kind, x.sum(0, 2), 1);
        }
        check.due("sum(4, 0)", x.sum(4, 0), UNKNOWN);
        check.due("sum(-1, 16)", x.sum(-1, 16), UNKNOWN);
        check.due("sum(0, 16)", x.sum(0, 16), OUTSIDE);
        check.due("sum(0, -1)", x.sum(0, -1), OUTSIDE);
    }

    private static void calm() {
        NotLikeThem x = new NotLikeThem();
        // 0 FOLLOWS, 1 FLEES, 2 FIRM, 3 TIRED, each with the same LEAN.
        for (int p = 0; p < 4; p++) x.set(p, 0, p);
        for (int p = 0; p < 4; p++) x.set(p, 1, 2);
        check.due("calm(0) by SUMS above 0", x.calm(0), 2 + 4);
        check.due("calm(15) by SUMS above 0", x.calm(15), 1 + 4);
        for (int p = 0; p < 4; p++) x.set(p, 1, -2);
        check.due("calm(0) by SUMS below 0", x.calm(0), 1 + 4);
        check.due("calm(15) by SUMS below 0", x.calm(15), 2 + 4);
        for (int p = 0; p < 4; p++) x.set(p, 1, 0);
        check.due("calm(0) by SUMS of 0", x.calm(0), 7);
        check.due("calm(15) by SUMS of 0", x.calm(15), 7);
        check.due("calm(16)", x.calm(16), OUTSIDE);
        check.due("calm(-1)", x.calm(-1), OUTSIDE);
        x.people(10);
        check.due("calm(1023)", x.calm(1023), 1023);
        check.due("calm(1024)", x.calm(1024), OUTSIDE);
    }

    private static void after() {
        NotLikeThem x = three();
        int[] atOnce = {1, 5, 0, 4, 3, 7, 2, 6};
        int[] inOrder = {5, 5, 0, 0, 7, 7, 2, 2};
        for (int d = 0; d < 8; d++) {
            check.due("after(" + d + ", 0, 0)", x.after(d, 0, 0), d);
            check.due("after(" + d + ", 1, 0)", x.after(d, 1, 0), d);
            check.due("after(" + d + ", 0, 1)", x.after(d, 0, 1), atOnce[d]);
            check.due("after(" + d + ", 1, 1)", x.after(d, 1, 1), inOrder[d]);
        }
        check.due("after(0, 0, 3)", x.after(0, 0, 3), 7);
        check.due("after(0, 0, 6)", x.after(0, 0, 6), 0);
        check.due("after(0, 0, 10000)", x.after(0, 0, 10000), 6);
        check.due("after(3, 1, 10000)", x.after(3, 1, 10000), 2);
        check.due("after(0, 0, 10001)", x.after(0, 0, 10001), OUTSIDE);
        check.due("after(0, 0, -1)", x.after(0, 0, -1), OUTSIDE);
        check.due("after(8, 0, 0)", x.after(8, 0, 0), OUTSIDE);
        check.due("after(-1, 0, 0)", x.after(-1, 0, 0), OUTSIDE);
        check.due("after(0, 2, 0)", x.after(0, 2, 0), OUTSIDE);
        check.due("after(0, -1, 0)", x.after(0, -1, 0), OUTSIDE);
    }

    private static void run() {
        NotLikeThem x = three();
        int[] enteredInOrder = {0, 5, 2, 0, 7, 5, 2, 7};
        int[] stepsInOrder = {0, 1, 0, 1, 1, 0, 1, 0};
        for (int d = 0; d < 8; d++) {
            check.due("run(" + d + ", 0, 0)", x.run(d, 0, 0), 0);
            check.due("run(" + d + ", 0, 1)", x.run(d, 0, 1), d);
            check.due("run(" + d + ", 0, 2)", x.run(d, 0, 2), d == 3 || d == 4 ? 2 : 6);
            check.due("run(" + d + ", 1, 0)", x.run(d, 1, 0), stepsInOrder[d]);
            check.due("run(" + d + ", 1, 1)", x.run(d, 1, 1), enteredInOrder[d]);
            check.due("run(" + d + ", 1, 2)", x.run(d, 1, 2), 4);
        }
        NotLikeThem y = chain();
        check.due("chain run(1, 0, 0)", y.run(1, 0, 0), 9);
        check.due("chain run(1, 0, 1)", y.run(1, 0, 1), 1023);
        check.due("chain run(1, 0, 2)", y.run(1, 0, 2), 1);
        check.due("chain run(1, 1, 0)", y.run(1, 1, 0), 1);
        check.due("chain run(1022, 0, 1)", y.run(1022, 0, 1), 0);
        check.due("run(8, 0, 0)", x.run(8, 0, 0), OUTSIDE);
        check.due("run(-1, 0, 0)", x.run(-1, 0, 0), OUTSIDE);
        check.due("run(0, 2, 0)", x.run(0, 2, 0), OUTSIDE);
        check.due("run(0, -1, 0)", x.run(0, -1, 0), OUTSIDE);
        check.due("run(0, 0, 3)", x.run(0, 0, 3), OUTSIDE);
        check.due("run(0, 0, -1)", x.run(0, 0, -1), OUTSIDE);
    }

    private static void isRing(NotLikeThem x, int way, int ring, int... due) {
        for (int what = 0; what < 4; what++) {
            check.due("ring(" + way + ", " + ring + ", " + what + ")", x.ring(way, ring, what), due[what]);
        }
    }

    private static void ringsOfThree() {
        NotLikeThem x = three();
        check.due("rings(0)", x.rings(0), 2);
        isRing(x, 0, 0, 0, 6, 6, 0);
        isRing(x, 0, 1, 3, 2, 2, 0);
        check.due("longest(0)", x.longest(0), 6);
        check.due("rings(1)", x.rings(1), 1);
        isRing(x, 1, 0, 0, 4, 8, 1);
        check.due("longest(1)", x.longest(1), 4);
    }

    private static void ringsOfChain() {
        NotLikeThem x = chain();
        check.due("rings(0)", x.rings(0), 2);
        isRing(x, 0, 0, 0, 1, 512, 9);
        isRing(x, 0, 1, 1023, 1, 512, 9);
        check.due("longest(0)", x.longest(0), 1);
        check.due("rings(1)", x.rings(1), 2);
        isRing(x, 1, 1, 1023, 1, 512, 1);
        // All alone: each DRESS is a RING of its own.
        x.people(10);
        check.due("rings(0) of all alone", x.rings(0), 1024);
        isRing(x, 0, 1023, 1023, 1, 1, 0);
        check.due("longest(1) of all alone", x.longest(1), 1);
    }

    private static void ringsAreNumberedByLeastDress() {
        // 1 is TIRED while 0 follows 2, who is FIRM: from 1 it comes to {0, 2}, from 4 to {5, 7}.
        NotLikeThem x = new NotLikeThem();
        x.people(3);
        x.set(1, 0, 3);
        x.set(2, 0, 2);
        x.tie(0, 2, 1);
        check.due("rings(0)", x.rings(0), 2);
        isRing(x, 0, 0, 0, 2, 4, 1);
        isRing(x, 0, 1, 5, 2, 4, 1);
        // 2 flees 0, who is firm: 0 comes to {4} and 1 is {1}, which is ahead of it all the same.
        x.people(3);
        x.set(0, 0, 2);
        x.set(2, 0, 1);
        x.tie(2, 0, 2);
        check.due("rings(0) of three", x.rings(0), 4);
        isRing(x, 0, 0, 1, 1, 2, 1);
        isRing(x, 0, 1, 3, 1, 2, 1);
        isRing(x, 0, 2, 4, 1, 2, 1);
        isRing(x, 0, 3, 6, 1, 2, 1);
        // 0 follows a LEAN to 1, 1 sees 0 and flees: 0 comes to {1}, by way of 3; 2 to {1} at once.
        x.people(2);
        x.set(0, 1, 1);
        x.set(1, 0, 1);
        x.tie(1, 0, 1);
        check.due("rings(0) of two", x.rings(0), 1);
        isRing(x, 0, 0, 1, 1, 4, 2);
        isRing(x, 1, 0, 1, 1, 4, 1);
    }

    private static void ringRefuses() {
        NotLikeThem x = three();
        check.due("rings(2)", x.rings(2), OUTSIDE);
        check.due("rings(-1)", x.rings(-1), OUTSIDE);
        check.due("longest(2)", x.longest(2), OUTSIDE);
        check.due("longest(-1)", x.longest(-1), OUTSIDE);
        check.due("ring(2, 9, 9)", x.ring(2, 9, 9), OUTSIDE);
        check.due("ring(0, 2, 0)", x.ring(0, 2, 0), UNKNOWN);
        check.due("ring(1, 1, 0)", x.ring(1, 1, 0), UNKNOWN);
        check.due("ring(0, -1, 0)", x.ring(0, -1, 0), UNKNOWN);
        check.due("ring(0, 2, 4)", x.ring(0, 2, 4), UNKNOWN);
        check.due("ring(0, 1, 4)", x.ring(0, 1, 4), OUTSIDE);
        check.due("ring(0, 0, -1)", x.ring(0, 0, -1), OUTSIDE);
    }

    /** What is kept of STEPS and RINGS must not outlive a change of the TOWN or of the WAY. */
    private static void changesAreSeen() {
        NotLikeThem x = three();
        check.due("rings(0)", x.rings(0), 2);
        check.due("after(0, 1, 1)", x.after(0, 1, 1), 5);
        check.due("ring(0, 1, 0)", x.ring(0, 1, 0), 3);
        x.set(0, 0, 0);
        // All follow round: 0 and 7 rest, {1, 4, 2} and {3, 5, 6} go round.
        check.due("rings(0) all follow", x.rings(0), 4);
        isRing(x, 0, 1, 1, 3, 3, 0);
        x.set(0, 0, 2);
        check.due("rings(0) first firm", x.rings(0), 2);
        x.tie(2, 0, 0);
        check.due("rings(0) untied", x.rings(0), 4);
        x.set(0, 1, 9);
        check.due("rings(0) firm ones do not lean", x.rings(0), 4);
        x.set(2, 1, 1);
        check.due("rings(0) last leans", x.rings(0), 2);
        x.set(2, 0, 3);
        check.due("longest(0) tired", x.longest(0), 2);
        x.week(0);
        x.week(6);
        // By this PICTURE 0 and 1 flee and 2 follows its LEAN.
        check.due("take()", x.take(), 3);
        check.due("longest(0) taken", x.longest(0), 1);
        isRing(x, 0, 0, 4, 1, 8, 2);
    }
}
