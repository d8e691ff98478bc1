/** Promises 1 to 6 and 36: the town. */
public final class TownTest {
    private static final int UNKNOWN = -1, OUTSIDE = -2, STATE = -3;
    private static final Check check = new Check("TownTest");

    public static void main(String[] args) {
        constants();
        newObject();
        people();
        peopleForgetsAll();
        tie();
        tieRefuses();
        set();
        setRefuses();
        about();
        sees();
        count();
        check.end();
    }

    private static void constants() {
        check.due("UNKNOWN", NotLikeThem.UNKNOWN, -1);
        check.due("OUTSIDE", NotLikeThem.OUTSIDE, -2);
        check.due("STATE", NotLikeThem.STATE, -3);
        check.due("FULL", NotLikeThem.FULL, -4);
        check.due("NONE", NotLikeThem.NONE, -9);
    }

    private static void newObject() {
        isAsAtFirst("new", new NotLikeThem(), 4);
    }

    private static void isAsAtFirst(String when, NotLikeThem x, int n) {
        check.due(when + ": count(0)", x.count(0), n);
        check.due(when + ": count(1)", x.count(1), 0);
        check.due(when + ": count(2)", x.count(2), 0);
        check.due(when + ": count(3)", x.count(3), n);
        check.due(when + ": count(4)", x.count(4), 0);
        for (int p = 0; p < n; p++) {
            for (int what = 0; what < 4; what++) check.due(when + ": about(" + p + ", " + what + ")", x.about(p, what), 0);
            for (int q = 0; q < n; q++) {
                if (p != q) check.due(when + ": sees(" + p + ", " + q + ")", x.sees(p, q), 0);
            }
        }
        check.due(when + ": about(n, 0)", x.about(n, 0), UNKNOWN);
        // None sees anyone and none leans: all are CALM in all DRESSES.
        check.due(when + ": rests()", x.rests(), 1 << n);
        check.due(when + ": maybe(0)", x.maybe(0), 15);
    }

    private static void people() {
        NotLikeThem x = new NotLikeThem();
        check.due("people(10)", x.people(10), 4);
        check.due("people(1)", x.people(1), 10);
        check.due("people(7)", x.people(7), 1);
        int[] wrong = {0, 11, -1, 12, 100, Integer.MIN_VALUE, Integer.MAX_VALUE};
        x.tie(0, 1, 5);
        x.week(3);
        for (int n : wrong) check.due("people(" + n + ")", x.people(n), OUTSIDE);
        check.due("count(0) behind refusals", x.count(0), 7);
        check.due("sees(0, 1) behind refusals", x.sees(0, 1), 5);
        check.due("count(2) behind refusals", x.count(2), 1);
    }

    private static void peopleForgetsAll() {
        NotLikeThem x = new NotLikeThem();
        // The same number is another TOWN, too; and a greater one must not find what was there.
        int[] sizes = {4, 10, 10, 2, 10, 1, 9, 3, 3, 10, 4};
        for (int n : sizes) {
            x.people(n);
            isAsAtFirst("people(" + n + ")", x, n);
            for (int p = 0; p < n; p++) {
                for (int q = 0; q < n; q++) x.tie(p, q, 9);
                x.set(p, 0, 1 + p % 3);
                x.set(p, 1, 9 - p);
            }
            x.week(1);
            x.week(0);
            x.rests();
            x.rings(1);
        }
    }

    private static void tie() {
        NotLikeThem x = new NotLikeThem();
        check.due("tie(0, 1, 9)", x.tie(0, 1, 9), 0);
        check.due("tie(0, 1, 2)", x.tie(0, 1, 2), 9);
        check.due("tie(1, 0, 4)", x.tie(1, 0, 4), 0);
        check.due("sees(0, 1)", x.sees(0, 1), 2);
        check.due("sees(1, 0)", x.sees(1, 0), 4);
        check.due("sum(0, 2)", x.sum(0, 2), 2);
        check.due("tie(0, 1, 0)", x.tie(0, 1, 0), 2);
        check.due("tie(0, 1, 1)", x.tie(0, 1, 1), 0);
        check.due("tie(3, 2, 7)", x.tie(3, 2, 7), 0);
        check.due("count(1)", x.count(1), 3);
    }

    private static void tieRefuses() {
        NotLikeThem x = new NotLikeThem();
        x.tie(0, 1, 3);
        check.due("tie(4, 0, 1)", x.tie(4, 0, 1), UNKNOWN);
        check.due("tie(0, 4, 1)", x.tie(0, 4, 1), UNKNOWN);
        check.due("tie(-1, 0, 1)", x.tie(-1, 0, 1), UNKNOWN);
        check.due("tie(0, -1, 1)", x.tie(0, -1, 1), UNKNOWN);
        check.due("tie(0, 4, 10)", x.tie(0, 4, 10), UNKNOWN);
        check.due("tie(4, 4, 10)", x.tie(4, 4, 10), UNKNOWN);
        check.due("tie(0, 1, 10)", x.tie(0, 1, 10), OUTSIDE);
        check.due("tie(0, 1, -1)", x.tie(0, 1, -1), OUTSIDE);
        check.due("tie(0, 0, 10)", x.tie(0, 0, 10), OUTSIDE);
        check.due("tie(0, 0, 9)", x.tie(0, 0, 9), STATE);
        check.due("tie(2, 2, 0)", x.tie(2, 2, 0), STATE);
        check.due("sees(0, 1) behind refusals", x.sees(0, 1), 3);
        check.due("count(1) behind refusals", x.count(1), 1);
    }

    private static void set() {
        NotLikeThem x = new NotLikeThem();
        check.due("set(0, 0, 3)", x.set(0, 0, 3), 0);
        check.due("set(0, 0, 2)", x.set(0, 0, 2), 3);
        check.due("set(0, 0, 1)", x.set(0, 0, 1), 2);
        check.due("set(0, 0, 0)", x.set(0, 0, 0), 1);
        check.due("set(3, 1, 9)", x.set(3, 1, 9), 0);
        check.due("set(3, 1, -9)", x.set(3, 1, -9), 9);
        check.due("set(3, 1, 4)", x.set(3, 1, 4), -9);
        check.due("about(3, 0)", x.about(3, 0), 0);
        check.due("about(3, 1)", x.about(3, 1), 4);
        check.due("about(0, 1)", x.about(0, 1), 0);
    }

    private static void setRefuses() {
        NotLikeThem x = new NotLikeThem();
        x.set(1, 0, 2);
        x.set(1, 1, 5);
        check.due("set(4, 0, 0)", x.set(4, 0, 0), UNKNOWN);
        check.due("set(-1, 1, 0)", x.set(-1, 1, 0), UNKNOWN);
        check.due("set(4, 2, 99)", x.set(4, 2, 99), UNKNOWN);
        check.due("set(1, 2, 0)", x.set(1, 2, 0), OUTSIDE);
        check.due("set(1, -1, 0)", x.set(1, -1, 0), OUTSIDE);
        check.due("set(1, 0, 4)", x.set(1, 0, 4), OUTSIDE);
        check.due("set(1, 0, -1)", x.set(1, 0, -1), OUTSIDE);
        check.due("set(1, 1, 10)", x.set(1, 1, 10), OUTSIDE);
        check.due("set(1, 1, -10)", x.set(1, 1, -10), OUTSIDE);
        check.due("about(1, 0) behind refusals", x.about(1, 0), 2);
        check.due("about(1, 1) behind refusals", x.about(1, 1), 5);
    }

    private static void about() {
        NotLikeThem x = new NotLikeThem();
        x.tie(0, 1, 9);
        x.tie(0, 2, 1);
        x.tie(0, 3, 5);
        x.tie(3, 0, 2);
        x.tie(2, 3, 2);
        x.tie(0, 3, 0);
        check.due("about(0, 2)", x.about(0, 2), 2);
        check.due("about(0, 3)", x.about(0, 3), 1);
        check.due("about(1, 2)", x.about(1, 2), 0);
        check.due("about(1, 3)", x.about(1, 3), 1);
        check.due("about(3, 2)", x.about(3, 2), 1);
        check.due("about(3, 3)", x.about(3, 3), 1);
        check.due("about(4, 0)", x.about(4, 0), UNKNOWN);
        check.due("about(-1, 9)", x.about(-1, 9), UNKNOWN);
        check.due("about(0, 4)", x.about(0, 4), OUTSIDE);
        check.due("about(0, -1)", x.about(0, -1), OUTSIDE);
    }

    private static void sees() {
        NotLikeThem x = new NotLikeThem();
        x.tie(2, 1, 6);
        check.due("sees(2, 1)", x.sees(2, 1), 6);
        check.due("sees(1, 2)", x.sees(1, 2), 0);
        check.due("sees(3, 3)", x.sees(3, 3), STATE);
        check.due("sees(4, 4)", x.sees(4, 4), UNKNOWN);
        check.due("sees(4, 0)", x.sees(4, 0), UNKNOWN);
        check.due("sees(0, 4)", x.sees(0, 4), UNKNOWN);
        check.due("sees(-1, 0)", x.sees(-1, 0), UNKNOWN);
        check.due("sees(0, -1)", x.sees(0, -1), UNKNOWN);
    }

    private static void count() {
        NotLikeThem x = new NotLikeThem();
        x.people(6);
        x.set(0, 0, 1);
        x.set(1, 0, 1);
        x.set(2, 0, 2);
        x.set(3, 0, 3);
        x.set(4, 0, 1);
        x.tie(0, 5, 1);
        x.tie(5, 0, 1);
        x.tie(5, 1, 9);
        x.week(63);
        x.week(0);
        int[] due = {6, 3, 2, 1, 3};
        for (int what = 0; what < 5; what++) check.due("count(" + what + ")", x.count(what), due[what]);
        check.due("count(5)", x.count(5), OUTSIDE);
        check.due("count(-1)", x.count(-1), OUTSIDE);
    }
}
