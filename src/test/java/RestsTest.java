/** Promises 14 to 23: rests, heat, lone changes, whom to turn and whom to hold. */
public final class RestsTest {
    private static final int UNKNOWN = -1, OUTSIDE = -2, STATE = -3, NONE = -9;
    private static final Check check = new Check("RestsTest");

    public static void main(String[] args) {
        rests();
        even();
        heatOfFollowers();
        heatOfThoseWhoFlee();
        heatWithFirmOnes();
        heatOnlyRises();
        heatRefuses();
        lone();
        settledAndWitness();
        turn();
        hold();
        check.end();
    }

    private static void bothWays(NotLikeThem x, int p, int q, int weight) {
        x.tie(p, q, weight);
        x.tie(q, p, weight);
    }

    /** Pairs of which the first follows the second, which flees it: they never rest. */
    private static NotLikeThem chases(int pairs) {
        NotLikeThem x = new NotLikeThem();
        x.people(2 * pairs);
        for (int i = 0; i < pairs; i++) {
            bothWays(x, 2 * i, 2 * i + 1, 1);
            x.set(2 * i + 1, 0, 1);
        }
        return x;
    }

    private static void rests() {
        NotLikeThem x = new NotLikeThem();
        check.due("rests() all alone", x.rests(), 16);
        check.due("rest(15) all alone", x.rest(15), 15);
        bothWays(x, 0, 1, 2);
        bothWays(x, 2, 3, 2);
        x.set(3, 0, 1);
        x.set(2, 0, 1);
        check.due("rests()", x.rests(), 4);
        int[] due = {4, 7, 8, 11};
        for (int i = 0; i < 4; i++) check.due("rest(" + i + ")", x.rest(i), due[i]);
        check.due("rest(4)", x.rest(4), UNKNOWN);
        check.due("rest(-1)", x.rest(-1), UNKNOWN);
        check.due("rest(MIN)", x.rest(Integer.MIN_VALUE), UNKNOWN);
        x.set(0, 0, 3);
        check.due("rests() with one TIRED", x.rests(), 0);
        check.due("rest(0) with one TIRED", x.rest(0), UNKNOWN);
    }

    private static void even() {
        NotLikeThem x = new NotLikeThem();
        check.due("even() all alone", x.even(), 1);
        x.tie(0, 1, 2);
        check.due("even() one sees", x.even(), 0);
        x.tie(1, 0, 3);
        check.due("even() unlike", x.even(), 0);
        x.tie(1, 0, 2);
        check.due("even() alike", x.even(), 1);
        x.set(0, 0, 1);
        check.due("even() flees one that follows", x.even(), 0);
        x.set(1, 0, 1);
        check.due("even() both flee", x.even(), 1);
        x.set(0, 0, 0);
        check.due("even() follows one that flees", x.even(), 0);
        x.set(0, 0, 2);
        check.due("even() firm and flees", x.even(), 1);
        x.set(1, 0, 2);
        x.tie(0, 1, 1);
        check.due("even() both firm, unlike", x.even(), 0);
        x.tie(0, 1, 2);
        check.due("even() both firm, alike", x.even(), 1);
        x.set(3, 0, 1);
        check.due("even() one that flees is seen by none", x.even(), 1);
        x.set(3, 0, 3);
        check.due("even() one TIRED", x.even(), 0);
    }

    private static void heats(String town, NotLikeThem x, int... due) {
        for (int d = 0; d < due.length; d++) check.due(town + ": heat(" + d + ")", x.heat(d), due[d]);
    }

    private static NotLikeThem two(int kind, int otherKind) {
        NotLikeThem x = new NotLikeThem();
        x.people(2);
        bothWays(x, 0, 1, 3);
        x.set(0, 0, kind);
        x.set(1, 0, otherKind);
        x.set(0, 1, 2);
        x.set(1, 1, -1);
        return x;
    }

    private static void heatOfFollowers() {
        heats("both follow", two(0, 0), 10000 + 3 - 2 + 1, 10000 - 3 + 2 + 1, 10000 - 3 - 2 - 1, 10000 + 3 + 2 - 1);
    }

    private static void heatOfThoseWhoFlee() {
        heats("both flee", two(1, 1), 10000 - 3 + 2 - 1, 10000 + 3 - 2 - 1, 10000 + 3 + 2 + 1, 10000 - 3 - 2 + 1);
    }

    private static void heatWithFirmOnes() {
        heats("firm, follows", two(2, 0), 10000 + 3 + 1, 10000 - 3 + 1, 10000 - 3 - 1, 10000 + 3 - 1);
        heats("follows, firm", two(0, 2), 10000 + 3 - 2, 10000 - 3 + 2, 10000 - 3 - 2, 10000 + 3 + 2);
        heats("flees, firm", two(1, 2), 10000 - 3 + 2, 10000 + 3 - 2, 10000 + 3 + 2, 10000 - 3 - 2);
        heats("both firm", two(2, 2), 10000, 10000, 10000, 10000);
    }

    private static void heatOnlyRises() {
        NotLikeThem x = new NotLikeThem();
        x.people(6);
        // 0 to 2 follow, 3 and 4 flee, all of them see 5, who is firm.
        for (int p = 0; p < 5; p++) {
            bothWays(x, p, 5, 1 + p);
            x.set(p, 1, 3 - 2 * p);
        }
        bothWays(x, 0, 1, 4);
        bothWays(x, 1, 2, 7);
        bothWays(x, 0, 2, 2);
        bothWays(x, 3, 4, 9);
        x.set(3, 0, 1);
        x.set(4, 0, 1);
        x.set(5, 0, 2);
        int changes = 0;
        for (int d = 0; d < 64; d++) {
            for (int p = 0; p < 6; p++) {
                int then = x.lone(p, d);
                if (then < 0) continue;
                changes++;
                // A change brings twice the SUM, whichever way it goes.
                check.due("heat by lone(" + p + ", " + d + ")", x.heat(then) - x.heat(d), 2 * Math.abs(x.sum(p, d)));
            }
        }
        check.isTrue("some changes", changes > 64);
        check.due("settled()", x.settled(), 1);
    }

    private static void heatRefuses() {
        NotLikeThem x = new NotLikeThem();
        x.tie(0, 1, 1);
        check.due("heat(0) not EVEN", x.heat(0), STATE);
        check.due("heat(16) not EVEN", x.heat(16), OUTSIDE);
        x.tie(1, 0, 1);
        check.due("heat(16)", x.heat(16), OUTSIDE);
        check.due("heat(-1)", x.heat(-1), OUTSIDE);
    }

    private static void lone() {
        NotLikeThem x = chases(1);
        check.due("lone(1, 0)", x.lone(1, 0), 2);
        check.due("lone(0, 2)", x.lone(0, 2), 3);
        check.due("lone(1, 3)", x.lone(1, 3), 1);
        check.due("lone(0, 1)", x.lone(0, 1), 0);
        check.due("lone(0, 0)", x.lone(0, 0), STATE);
        check.due("lone(1, 2)", x.lone(1, 2), STATE);
        check.due("lone(2, 4)", x.lone(2, 4), UNKNOWN);
        check.due("lone(-1, 0)", x.lone(-1, 0), UNKNOWN);
        check.due("lone(0, 4)", x.lone(0, 4), OUTSIDE);
        check.due("lone(0, -1)", x.lone(0, -1), OUTSIDE);
        x.set(0, 0, 3);
        check.due("lone(0, 0) TIRED", x.lone(0, 0), 1);
        x.set(0, 0, 2);
        check.due("lone(0, 2) FIRM", x.lone(0, 2), STATE);
    }

    private static void settledAndWitness() {
        NotLikeThem x = new NotLikeThem();
        check.due("settled() all alone", x.settled(), 1);
        check.due("witness() all alone", x.witness(), NONE);
        x = chases(1);
        check.due("settled() of a chase", x.settled(), 0);
        check.due("witness() of a chase", x.witness(), 0);
        // The chase goes on only where 2, who is firm, wears 1.
        x = new NotLikeThem();
        x.people(3);
        bothWays(x, 0, 1, 1);
        x.set(1, 0, 1);
        x.tie(0, 2, 2);
        x.set(0, 1, -2);
        x.set(2, 0, 2);
        check.due("settled() of a chase with one firm", x.settled(), 0);
        check.due("witness() of a chase with one firm", x.witness(), 4);
        // 2 comes to wear 1 and stays so: 0 leads to the round, but the round does not lead back.
        x.set(2, 0, 0);
        x.set(2, 1, 1);
        check.due("witness() behind a way there", x.witness(), 4);
        check.due("settled() behind a way there", x.settled(), 0);
        x.people(1);
        x.set(0, 0, 3);
        check.due("settled() TIRED", x.settled(), 0);
        check.due("witness() TIRED", x.witness(), 0);
        // Here there are as many LONE CHANGES as there can be.
        x.people(10);
        for (int p = 0; p < 10; p++) x.set(p, 0, 3);
        check.due("settled() ten TIRED", x.settled(), 0);
        check.due("witness() ten TIRED", x.witness(), 0);
        x.people(10);
        for (int p = 0; p < 10; p++) x.tie(p, (p + 1) % 10, 1);
        check.due("settled() ten follow round", x.settled(), 0);
        // A 1 that one alone wears can be handed on from each to the one ahead, right round.
        check.due("witness() ten follow round", x.witness(), 1);
    }

    private static void turn() {
        NotLikeThem x = new NotLikeThem();
        check.due("turn() all alone", x.turn(), 0);
        check.due("turned() all alone", x.turned(), 0);
        x = chases(1);
        check.due("turn() of a chase", x.turn(), 1);
        check.due("turned() of a chase", x.turned(), 1);
        x = chases(3);
        check.due("turn() of three chases", x.turn(), 3);
        check.due("turned() of three chases", x.turned(), 1 + 4 + 16);
        // Who is firm is not turned, the other one is.
        x = chases(2);
        x.set(0, 0, 2);
        check.due("turn() one firm", x.turn(), 1);
        check.due("turned() one firm", x.turned(), 4);
        check.due("about(2, 0) is as it was", x.about(2, 0), 0);
        x.set(0, 0, 3);
        check.due("turn() one TIRED", x.turn(), NONE);
        check.due("turned() one TIRED", x.turned(), NONE);
    }

    private static void hold() {
        NotLikeThem x = new NotLikeThem();
        check.due("hold(false) all alone", x.hold(false), 0);
        check.due("hold(true) all alone", x.hold(true), 0);
        x.set(0, 1, 1);
        check.due("hold(false) one leans", x.hold(false), 0);
        check.due("hold(true) one leans", x.hold(true), 1);
        x.set(1, 0, 3);
        x.set(3, 0, 3);
        check.due("hold(false) two TIRED", x.hold(false), 2);
        check.due("hold(true) two TIRED", x.hold(true), 1);
        x = chases(3);
        check.due("hold(false) of three chases", x.hold(false), 3);
        check.due("hold(true) of three chases", x.hold(true), 0);
        x.set(1, 0, 2);
        check.due("hold(false) one is firm", x.hold(false), 2);
        x.people(10);
        for (int p = 0; p < 10; p++) x.set(p, 0, 3);
        check.due("hold(false) all TIRED", x.hold(false), 10);
        check.due("hold(true) all TIRED", x.hold(true), 0);
    }
}
