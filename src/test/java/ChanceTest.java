/** Promises 24 to 27: changes by chance. */
public final class ChanceTest {
    private static final int UNKNOWN = -1, OUTSIDE = -2, NONE = -9;
    private static final Check check = new Check("ChanceTest");

    public static void main(String[] args) {
        may();
        maysAndSoon();
        noneMayCome();
        refusals();
        likelyQuarters();
        likelyThird();
        likelyAtARest();
        likelyTenths();
        check.end();
    }

    /** Two pairs that follow one another. */
    private static NotLikeThem pairs() {
        NotLikeThem x = new NotLikeThem();
        x.tie(0, 1, 1);
        x.tie(1, 0, 1);
        x.tie(2, 3, 1);
        x.tie(3, 2, 1);
        return x;
    }

    /**
     * 0 follows 1 and 1 flees 0, a chase through 0, 2, 3, 1, that ends when 2 comes to wear 1: then 0
     * stays at 1, and all rest in 5.
     */
    private static NotLikeThem endingChase() {
        NotLikeThem x = new NotLikeThem();
        x.people(3);
        x.tie(0, 1, 1);
        x.tie(0, 2, 2);
        x.set(0, 1, 2);
        x.tie(1, 0, 1);
        x.set(1, 0, 1);
        x.set(2, 1, 1);
        return x;
    }

    private static void may() {
        NotLikeThem x = pairs();
        // The RESTS are 0, 3, 12, 15.
        int[][] due = {
            {0, 1, 0, 0, 0}, {3, 0, 1, 0, 0}, {1, 1, 1, 0, 0}, {2, 1, 1, 0, 0},
            {4, 1, 0, 1, 0}, {5, 1, 1, 1, 1}, {7, 0, 1, 0, 1}, {13, 0, 0, 1, 1}, {15, 0, 0, 0, 1},
        };
        for (int[] row : due) {
            for (int rest = 0; rest < 4; rest++) {
                check.due("may(" + row[0] + ", " + rest + ")", x.may(row[0], rest), row[1 + rest]);
            }
        }
    }

    private static void maysAndSoon() {
        NotLikeThem x = pairs();
        int[] mays = {1, 2, 2, 1, 2, 4, 4, 2, 2, 4, 4, 2, 1, 2, 2, 1};
        int[] soon = {0, 1, 1, 0, 1, 2, 2, 1, 1, 2, 2, 1, 0, 1, 1, 0};
        for (int d = 0; d < 16; d++) {
            check.due("mays(" + d + ")", x.mays(d), mays[d]);
            check.due("soon(" + d + ")", x.soon(d), soon[d]);
        }
        x = endingChase();
        int[] soonOfChase = {2, 1, 3, 2, 1, 0, 2, 1};
        for (int d = 0; d < 8; d++) {
            check.due("chase mays(" + d + ")", x.mays(d), 1);
            check.due("chase soon(" + d + ")", x.soon(d), soonOfChase[d]);
            check.due("chase may(" + d + ", 0)", x.may(d, 0), 1);
        }
        x.people(10);
        for (int p = 0; p < 10; p++) x.set(p, 1, 1);
        check.due("soon(0) all lean", x.soon(0), 10);
        check.due("mays(0) all lean", x.mays(0), 1);
    }

    private static void noneMayCome() {
        NotLikeThem x = new NotLikeThem();
        x.set(2, 0, 3);
        check.due("mays(0) TIRED", x.mays(0), 0);
        check.due("soon(0) TIRED", x.soon(0), NONE);
        check.due("may(0, 0) TIRED", x.may(0, 0), UNKNOWN);
        // The chase goes on for ever where 2, who is firm, wears 1; else there is a REST, 2.
        x.people(3);
        x.tie(0, 1, 1);
        x.tie(1, 0, 1);
        x.set(1, 0, 1);
        x.tie(0, 2, 2);
        x.set(0, 1, -2);
        x.set(2, 0, 2);
        check.due("rests()", x.rests(), 1);
        check.due("mays(4)", x.mays(4), 0);
        check.due("soon(4)", x.soon(4), NONE);
        check.due("may(4, 0)", x.may(4, 0), 0);
        isLikely(x, 4, 4, 0, 1);
        check.due("mays(3)", x.mays(3), 1);
        check.due("soon(3)", x.soon(3), 1);
    }

    private static void refusals() {
        NotLikeThem x = pairs();
        check.due("may(16, 9)", x.may(16, 9), OUTSIDE);
        check.due("may(-1, 0)", x.may(-1, 0), OUTSIDE);
        check.due("may(0, 4)", x.may(0, 4), UNKNOWN);
        check.due("may(0, -1)", x.may(0, -1), UNKNOWN);
        check.due("mays(16)", x.mays(16), OUTSIDE);
        check.due("mays(-1)", x.mays(-1), OUTSIDE);
        check.due("soon(16)", x.soon(16), OUTSIDE);
        check.due("soon(-1)", x.soon(-1), OUTSIDE);
        check.due("likely(16, 0)", x.likely(16, 0, true), OUTSIDE);
        check.due("likely(-1, 0)", x.likely(-1, 0, false), OUTSIDE);
        check.due("likely(0, 5)", x.likely(0, 5, true), OUTSIDE);
        check.due("likely(0, -1)", x.likely(0, -1, false), OUTSIDE);
    }

    private static void isLikely(NotLikeThem x, int dress, int draws, long upper, long lower) {
        check.due("likely(" + dress + ", " + draws + ", true)", x.likely(dress, draws, true), upper);
        check.due("likely(" + dress + ", " + draws + ", false)", x.likely(dress, draws, false), lower);
    }

    private static void likelyQuarters() {
        NotLikeThem x = endingChase();
        isLikely(x, 0, 0, 0, 1);
        isLikely(x, 0, 1, 0, 1);
        isLikely(x, 0, 2, 1, 4);
        isLikely(x, 0, 3, 1, 4);
        isLikely(x, 0, 4, 15, 16);
        isLikely(x, 4, 1, 1, 2);
        isLikely(x, 4, 2, 1, 2);
        isLikely(x, 4, 3, 1, 1);
        isLikely(x, 2, 3, 7, 8);
        isLikely(x, 3, 2, 3, 4);
    }

    private static void likelyThird() {
        NotLikeThem x = new NotLikeThem();
        x.people(3);
        for (int p = 0; p < 3; p++) {
            x.set(p, 0, 1);
            for (int q = 0; q < 3; q++) x.tie(p, q, 1);
        }
        // All flee one another, 2 the more so: it is enough if 2 is drawn first.
        x.set(2, 1, -1);
        isLikely(x, 0, 1, 1, 3);
        isLikely(x, 0, 2, 1, 1);
    }

    private static void likelyAtARest() {
        NotLikeThem x = pairs();
        for (int draws = 0; draws <= 4; draws++) {
            isLikely(x, 0, draws, 1, 1);
            isLikely(x, 15, draws, 1, 1);
            isLikely(x, 7, draws, draws == 0 ? 0 : 1, 1);
            isLikely(x, 5, draws, draws < 2 ? 0 : 1, 1);
        }
    }

    private static void likelyTenths() {
        NotLikeThem x = new NotLikeThem();
        x.people(10);
        // 0 comes to wear 1 by its LEAN; all others flee it, to 1 as long as it has not.
        x.set(0, 1, 1);
        for (int p = 1; p < 10; p++) {
            x.tie(p, 0, 1);
            x.set(p, 0, 1);
        }
        isLikely(x, 0, 1, 1, 10);
        isLikely(x, 0, 2, 1, 10);
        // 0 first (1/10), or another (9/10), then 0 (1/9), then that other one back.
        isLikely(x, 0, 3, 1, 5);
        isLikely(x, 0, 4, 1, 5);
        // One who wears 1: 0 (1/9) and back; or another (8/9), 0 (1/8) and back by two.
        isLikely(x, 2, 1, 0, 1);
        isLikely(x, 2, 2, 1, 9);
        isLikely(x, 2, 3, 1, 9);
        isLikely(x, 2, 4, 2, 9);
    }
}
