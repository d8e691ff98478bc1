/** Promises 28 to 32: what a picture of some weeks tells. */
public final class PictureTest {
    private static final int UNKNOWN = -1, OUTSIDE = -2, STATE = -3, FULL = -4;
    private static final Check check = new Check("PictureTest");

    public static void main(String[] args) {
        weekAndWipe();
        maybe();
        maybeOverWeeks();
        tiesAndLeansAsTheyAre();
        ways();
        take();
        takeRefuses();
        check.end();
    }

    private static void weekAndWipe() {
        NotLikeThem x = new NotLikeThem();
        check.due("wipe() of nothing", x.wipe(), 0);
        for (int i = 1; i <= 8; i++) {
            check.due("week(16)", x.week(16), OUTSIDE);
            check.due("week(-1)", x.week(-1), OUTSIDE);
            check.due("week(15)", x.week(15), i);
            check.due("count(2)", x.count(2), i);
        }
        check.due("week(0) of nine", x.week(0), FULL);
        check.due("week(16) of nine", x.week(16), OUTSIDE);
        check.due("count(2)", x.count(2), 8);
        check.due("maybe(0) behind a refused week", x.maybe(0), 7);
        check.due("wipe()", x.wipe(), 8);
        check.due("wipe() again", x.wipe(), 0);
        check.due("maybe(0) of nothing", x.maybe(0), 15);
        check.due("week(3)", x.week(3), 1);
        check.due("maybe(0) of one week", x.maybe(0), 15);
        check.due("people(2)", x.people(2), 4);
        check.due("week(3) of two", x.week(3), 1);
        check.due("week(4) of two", x.week(4), OUTSIDE);
    }

    /** What a PERSON of some LEAN MAY be that wore one thing and then another. */
    private static void isMaybe(int lean, int worn, int then, int due) {
        NotLikeThem x = new NotLikeThem();
        x.people(1);
        x.set(0, 1, lean);
        x.week(worn);
        x.week(then);
        check.due("maybe(0) by " + lean + " from " + worn + " to " + then, x.maybe(0), due);
    }

    private static void maybe() {
        isMaybe(1, 0, 0, 2 + 4);
        isMaybe(1, 0, 1, 1 + 8);
        isMaybe(1, 1, 0, 2 + 8);
        isMaybe(1, 1, 1, 1 + 4);
        isMaybe(-1, 0, 0, 1 + 4);
        isMaybe(-1, 0, 1, 2 + 8);
        isMaybe(-1, 1, 0, 1 + 8);
        isMaybe(-1, 1, 1, 2 + 4);
        isMaybe(0, 0, 0, 1 + 2 + 4);
        isMaybe(0, 0, 1, 8);
        isMaybe(0, 1, 0, 8);
        isMaybe(0, 1, 1, 1 + 2 + 4);
        NotLikeThem x = new NotLikeThem();
        check.due("maybe(4)", x.maybe(4), UNKNOWN);
        check.due("maybe(-1)", x.maybe(-1), UNKNOWN);
    }

    private static void maybeOverWeeks() {
        NotLikeThem x = new NotLikeThem();
        x.people(2);
        x.tie(0, 1, 1);
        // 1 goes 0, 1, 1, 0; 0 goes behind it: 0, 0, 1, 1.
        int[] weeks = {0, 2, 3, 1};
        int[] maybe0 = {15, 5, 1, 1};
        int[] maybe1 = {15, 8, 0, 0};
        for (int i = 0; i < 4; i++) {
            x.week(weeks[i]);
            check.due("maybe(0) of " + (i + 1), x.maybe(0), maybe0[i]);
            check.due("maybe(1) of " + (i + 1), x.maybe(1), maybe1[i]);
        }
        // AT ONCE, not IN ORDER: 1 would have gone with 0 in the same STEP.
        x.people(2);
        x.tie(1, 0, 1);
        x.week(0);
        x.week(1);
        check.due("maybe(1) AT ONCE", x.maybe(1), 1 + 4);
    }

    private static void tiesAndLeansAsTheyAre() {
        NotLikeThem x = new NotLikeThem();
        x.people(2);
        x.tie(0, 1, 1);
        x.week(0);
        x.week(1);
        check.due("maybe(0) by its TIE", x.maybe(0), 2 + 8);
        x.set(0, 1, 2);
        check.due("maybe(0) by its LEAN", x.maybe(0), 1 + 8);
        x.tie(0, 1, 2);
        check.due("maybe(0) by both", x.maybe(0), 8);
        // What it is now does not matter.
        for (int kind = 0; kind < 4; kind++) {
            x.set(0, 0, kind);
            check.due("maybe(0) as " + kind, x.maybe(0), 8);
        }
    }

    private static void ways() {
        NotLikeThem x = new NotLikeThem();
        check.due("ways() of nothing", x.ways(), 256);
        x.people(10);
        check.due("ways() of nothing, ten", x.ways(), 1048576);
        x.week(5);
        check.due("ways() of one week", x.ways(), 1048576);
        x.people(2);
        x.tie(0, 1, 1);
        x.week(0);
        x.week(1);
        check.due("ways() of two", x.ways(), 2 * 3);
        x.week(3);
        check.due("ways() of three", x.ways(), 0);
    }

    private static void take() {
        NotLikeThem x = new NotLikeThem();
        x.people(2);
        x.tie(0, 1, 1);
        x.set(1, 0, 2);
        x.week(0);
        x.week(1);
        check.due("take()", x.take(), 2);
        check.due("about(0, 0)", x.about(0, 0), 1);
        check.due("about(1, 0)", x.about(1, 0), 0);
        check.due("count(2): the PICTURE stays", x.count(2), 2);
        check.due("take() again", x.take(), 0);
        check.due("after(0, 0, 1): it is explained", x.after(0, 0, 1), 1);
        x.people(4);
        // 0 has to be TIRED, 1 to FLEE, 2 to FOLLOW; 3 MAY be FIRM, and what its LEAN tells.
        x.set(1, 1, -1);
        x.set(2, 1, 1);
        x.set(3, 1, -9);
        x.week(8);
        x.week(8 + 4 + 2 + 1);
        x.set(3, 1, 9);
        x.week(8 + 4 + 2);
        check.due("maybe(3)", x.maybe(3), 1 + 4);
        x.set(3, 1, -9);
        check.due("maybe(3) by another LEAN", x.maybe(3), 2 + 4);
        check.due("take() of four", x.take(), 3);
        check.due("about(0, 0) of four", x.about(0, 0), 3);
        check.due("about(1, 0) of four", x.about(1, 0), 1);
        check.due("about(2, 0) of four", x.about(2, 0), 0);
        check.due("about(3, 0) of four", x.about(3, 0), 1);
    }

    private static void takeRefuses() {
        NotLikeThem x = new NotLikeThem();
        x.people(2);
        x.set(0, 0, 2);
        x.week(0);
        x.week(2);
        x.week(2);
        check.due("maybe(0)", x.maybe(0), 7);
        check.due("maybe(1)", x.maybe(1), 0);
        check.due("take()", x.take(), STATE);
        check.due("about(0, 0) is as it was", x.about(0, 0), 2);
        check.due("count(2) is as it was", x.count(2), 3);
    }
}
