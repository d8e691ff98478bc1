/**
 * "REFUSALS, of several the first that a call names .. What is refused changes nothing." Each refusal
 * of each call by itself, then two and three at once; behind each the object must tell what another
 * one tells that was not asked.
 */
public final class RefusalsTest {
    private static final int UNKNOWN = -1, OUTSIDE = -2, STATE = -3, FULL = -4;
    private static final Check check = new Check("RefusalsTest");

    /** Three PEOPLE of three KINDS; not EVEN; DRESSES 0 to 7; a PICTURE of three WEEKS that has ways. */
    private static final String[] USUAL = {
        "people(3)", "tie(0, 1, 2)", "tie(1, 0, 2)", "tie(1, 2, 1)", "tie(2, 0, 3)", "set(1, 0, 1)", "set(2, 0, 2)",
        "set(0, 1, 1)", "set(1, 1, -2)", "week(0)", "week(2)", "week(3)",
    };
    /** EVEN, all FOLLOW; two RESTS, 0 and 7; RINGS are 0, 2 and 5, 7 AT ONCE, 0 and 7 IN ORDER. */
    private static final String[] EVEN = {
        "people(3)", "tie(0, 1, 2)", "tie(1, 0, 2)", "tie(1, 2, 2)", "tie(2, 1, 2)", "week(7)",
    };
    /** Eight WEEKS in which someone MAY be nothing. */
    private static final String[] FULL_PICTURE = {
        "people(3)", "tie(0, 2, 1)", "set(2, 0, 3)", "week(0)", "week(1)", "week(2)", "week(3)", "week(4)", "week(5)",
        "week(6)", "week(7)",
    };
    /** One PERSON. */
    private static final String[] ALONE = {"people(1)", "set(0, 1, 5)", "week(0)", "week(1)", "week(1)"};

    public static void main(String[] args) {
        oneOfTown();
        oneOfSteps();
        oneOfRests();
        oneOfChance();
        oneOfPicture();
        oneOfShop();
        severalOfTown();
        severalOfSteps();
        severalOfRests();
        severalOfChance();
        severalOfPicture();
        severalOfShop();
        alone();
        check.end();
    }

    private static void refuses(String[] town, int due, String... calls) {
        for (String call : calls) {
            NotLikeThem asked = Calls.town(town);
            NotLikeThem left = Calls.town(town);
            // Once ahead of all that is kept of the TOWN, once behind it.
            check.due(call, Calls.answer(asked, call), due);
            check.isTrue(call + " has changed nothing", Probe.of(asked).equals(Probe.of(left)));
            check.due(call + " again", Calls.answer(asked, call), due);
            check.isTrue(call + " has changed nothing to come", Probe.usedUp(asked).equals(Probe.usedUp(left)));
        }
    }

    // ---- each by itself

    private static void oneOfTown() {
        refuses(USUAL, OUTSIDE, "people(0)", "people(11)", "people(-1)", "people(MIN)", "people(MAX)");
        refuses(USUAL, UNKNOWN, "tie(3, 0, 1)", "tie(-1, 0, 1)", "tie(0, 3, 1)", "tie(0, -1, 1)", "tie(3, 2, 0)");
        refuses(USUAL, OUTSIDE, "tie(0, 1, 10)", "tie(0, 1, -1)", "tie(1, 2, MAX)", "tie(2, 0, MIN)");
        refuses(USUAL, STATE, "tie(0, 0, 1)", "tie(1, 1, 0)", "tie(2, 2, 9)");
        refuses(USUAL, UNKNOWN, "set(3, 0, 1)", "set(-1, 0, 1)", "set(3, 1, 5)", "set(-1, 1, 5)");
        refuses(USUAL, OUTSIDE, "set(0, 2, 1)", "set(0, -1, 1)");
        refuses(USUAL, OUTSIDE, "set(0, 0, 4)", "set(0, 0, -1)", "set(0, 1, 10)", "set(0, 1, -10)");
        refuses(USUAL, OUTSIDE, "set(1, 0, 4)", "set(1, 0, -1)", "set(1, 1, 10)", "set(1, 1, -10)", "set(1, 2, 0)");
        refuses(USUAL, UNKNOWN, "about(3, 0)", "about(-1, 3)");
        refuses(USUAL, OUTSIDE, "about(0, 4)", "about(2, -1)");
        refuses(USUAL, UNKNOWN, "sees(3, 0)", "sees(0, 3)", "sees(-1, 0)", "sees(0, -1)");
        refuses(USUAL, STATE, "sees(0, 0)", "sees(1, 1)", "sees(2, 2)");
        refuses(USUAL, OUTSIDE, "count(5)", "count(-1)", "count(MIN)", "count(MAX)");
    }

    private static void oneOfSteps() {
        refuses(USUAL, UNKNOWN, "sum(3, 0)", "sum(-1, 7)");
        refuses(USUAL, OUTSIDE, "sum(0, 8)", "sum(2, -1)");
        refuses(USUAL, OUTSIDE, "calm(8)", "calm(-1)", "calm(MIN)");
        refuses(USUAL, OUTSIDE, "after(8, 0, 1)", "after(-1, 0, 1)", "after(0, 2, 1)", "after(0, -1, 1)");
        refuses(USUAL, OUTSIDE, "after(0, 0, 10001)", "after(0, 1, -1)");
        refuses(USUAL, OUTSIDE, "run(8, 0, 0)", "run(-1, 0, 0)", "run(0, 2, 0)", "run(0, -1, 0)");
        refuses(USUAL, OUTSIDE, "run(0, 0, 3)", "run(0, 1, -1)");
        refuses(USUAL, OUTSIDE, "rings(2)", "rings(-1)", "longest(2)", "longest(-1)");
        refuses(USUAL, OUTSIDE, "ring(2, 0, 0)", "ring(-1, 0, 0)", "ring(0, 0, 4)", "ring(0, 0, -1)");
        refuses(EVEN, UNKNOWN, "ring(0, 3, 0)", "ring(0, -1, 0)", "ring(1, 2, 3)", "ring(0, MIN, 0)", "ring(0, MAX, 0)");
    }

    private static void oneOfRests() {
        refuses(EVEN, UNKNOWN, "rest(2)", "rest(-1)", "rest(MIN)", "rest(MAX)");
        refuses(EVEN, OUTSIDE, "heat(8)", "heat(-1)");
        refuses(USUAL, STATE, "heat(0)", "heat(7)");
        refuses(EVEN, UNKNOWN, "lone(3, 1)", "lone(-1, 1)");
        refuses(EVEN, OUTSIDE, "lone(0, 8)", "lone(0, -1)");
        refuses(EVEN, STATE, "lone(0, 0)", "lone(2, 7)", "lone(1, 1)", "lone(2, 6)");
    }

    private static void oneOfChance() {
        refuses(EVEN, OUTSIDE, "may(8, 0)", "may(-1, 1)", "mays(8)", "mays(-1)", "soon(8)", "soon(-1)");
        refuses(EVEN, UNKNOWN, "may(0, 2)", "may(7, -1)", "may(3, MAX)");
        refuses(EVEN, OUTSIDE, "likely(8, 0, true)", "likely(-1, 4, false)");
        refuses(EVEN, OUTSIDE, "likely(0, 5, true)", "likely(0, -1, true)", "likely(0, 5, false)", "likely(0, -1, false)");
    }

    private static void oneOfPicture() {
        refuses(USUAL, OUTSIDE, "week(8)", "week(-1)", "week(MIN)", "week(MAX)");
        refuses(FULL_PICTURE, FULL, "week(0)", "week(7)");
        refuses(USUAL, UNKNOWN, "maybe(3)", "maybe(-1)");
        refuses(FULL_PICTURE, STATE, "take()");
    }

    private static void oneOfShop() {
        refuses(USUAL, OUTSIDE, "asked(8, 0, 1)", "asked(-1, 0, 1)", "asked(0, 2, 1)", "asked(0, -1, 1)");
        refuses(USUAL, OUTSIDE, "asked(0, 0, 0)", "asked(0, 0, 51)");
        refuses(USUAL, OUTSIDE, "gain(2, 1, 1, 1, 1)", "gain(-1, 1, 1, 1, 1)", "gain(0, 0, 1, 1, 1)", "gain(0, 51, 1, 1, 1)");
        refuses(USUAL, OUTSIDE, "gain(0, 1, -1, 1, 1)", "gain(0, 1, 501, 1, 1)");
        refuses(USUAL, OUTSIDE, "gain(0, 1, 1, 0, 1)", "gain(0, 1, 1, 100, 1)", "gain(0, 1, 1, 1, 0)", "gain(0, 1, 1, 1, 100)");
        refuses(USUAL, OUTSIDE, "order(2, 1, 1, 1)", "order(-1, 1, 1, 1)", "order(0, 0, 1, 1)", "order(0, 51, 1, 1)");
        refuses(USUAL, OUTSIDE, "order(0, 1, 0, 1)", "order(0, 1, 100, 1)", "order(0, 1, 1, 0)", "order(0, 1, 1, 100)");
    }

    // ---- several at once

    private static void severalOfTown() {
        // UNKNOWN; OUTSIDE: weight; STATE: both are one.
        refuses(USUAL, UNKNOWN, "tie(3, 0, 10)", "tie(0, 3, 10)", "tie(-1, 0, -1)", "tie(0, -1, -1)");
        refuses(USUAL, UNKNOWN, "tie(3, 3, 1)", "tie(-1, -1, 1)", "tie(3, -1, 1)", "tie(3, 3, 10)", "tie(-1, -1, -1)");
        refuses(USUAL, OUTSIDE, "tie(0, 0, 10)", "tie(2, 2, -1)");
        // UNKNOWN; OUTSIDE.
        refuses(USUAL, UNKNOWN, "set(3, 2, 0)", "set(3, 0, 4)", "set(-1, 1, 10)", "set(-1, -1, -10)");
        refuses(USUAL, OUTSIDE, "set(0, 2, 10)", "set(0, -1, -10)");
        refuses(USUAL, UNKNOWN, "about(3, 4)", "about(-1, -1)");
        // UNKNOWN; STATE: both are one.
        refuses(USUAL, UNKNOWN, "sees(3, 3)", "sees(-1, -1)", "sees(3, -1)");
    }

    private static void severalOfSteps() {
        // UNKNOWN; OUTSIDE: dress.
        refuses(USUAL, UNKNOWN, "sum(3, 8)", "sum(-1, -1)");
        refuses(USUAL, OUTSIDE, "after(8, 2, 0)", "after(8, 0, 10001)", "after(0, 2, -1)", "after(-1, -1, -1)");
        refuses(USUAL, OUTSIDE, "run(8, 2, 0)", "run(8, 0, 3)", "run(0, 2, 3)", "run(-1, -1, -1)");
        // OUTSIDE: way; UNKNOWN: ring; OUTSIDE: what.
        refuses(EVEN, OUTSIDE, "ring(2, 3, 0)", "ring(-1, -1, 0)", "ring(2, 0, 4)", "ring(2, 3, 4)", "ring(-1, -1, -1)");
        refuses(EVEN, UNKNOWN, "ring(0, 3, 4)", "ring(0, -1, -1)", "ring(1, 2, 4)");
    }

    private static void severalOfRests() {
        // OUTSIDE: dress; STATE: the TOWN is not EVEN.
        refuses(USUAL, OUTSIDE, "heat(8)", "heat(-1)");
        // UNKNOWN; OUTSIDE: dress; STATE: it is CALM (2 is FIRM in USUAL: CALM in each DRESS).
        refuses(USUAL, UNKNOWN, "lone(3, 8)", "lone(-1, -1)", "lone(3, 0)");
        refuses(USUAL, OUTSIDE, "lone(2, 8)", "lone(2, -1)");
    }

    private static void severalOfChance() {
        // OUTSIDE: dress; UNKNOWN: rest.
        refuses(EVEN, OUTSIDE, "may(8, 2)", "may(-1, -1)");
        refuses(EVEN, OUTSIDE, "likely(8, 5, true)", "likely(-1, -1, false)");
    }

    private static void severalOfPicture() {
        // OUTSIDE: dress; FULL: 8.
        refuses(FULL_PICTURE, OUTSIDE, "week(8)", "week(-1)");
    }

    private static void severalOfShop() {
        refuses(USUAL, OUTSIDE, "asked(8, 2, 1)", "asked(8, 0, 0)", "asked(0, 2, 51)", "asked(-1, -1, 0)");
        refuses(USUAL, OUTSIDE, "gain(2, 0, 1, 1, 1)", "gain(0, 51, 501, 1, 1)", "gain(0, 1, -1, 0, 1)", "gain(0, 1, 1, 100, 100)");
        refuses(USUAL, OUTSIDE, "gain(-1, 0, -1, 0, 0)", "gain(2, 51, 501, 100, 100)");
        refuses(USUAL, OUTSIDE, "order(2, 0, 1, 1)", "order(0, 51, 100, 1)", "order(0, 1, 0, 0)", "order(2, 51, 100, 100)");
    }

    /** Where there is one PERSON alone, there is no other one. */
    private static void alone() {
        refuses(ALONE, STATE, "tie(0, 0, 1)", "sees(0, 0)");
        refuses(ALONE, UNKNOWN, "tie(0, 1, 1)", "tie(1, 0, 1)", "sees(0, 1)", "sees(1, 0)", "set(1, 0, 0)", "about(1, 0)");
        refuses(ALONE, UNKNOWN, "sum(1, 0)", "lone(1, 0)", "maybe(1)", "rest(1)", "ring(0, 1, 0)", "may(0, 1)");
        refuses(ALONE, OUTSIDE, "sum(0, 2)", "calm(2)", "heat(2)", "lone(0, 2)", "week(2)", "asked(2, 0, 1)");
        refuses(ALONE, STATE, "lone(0, 1)");
    }
}
