/**
 * Each number that the document gives a range: the last that is allowed and what it answers, and the
 * first that is not, on both sides.
 */
public final class RangesTest {
    private static final int UNKNOWN = -1, OUTSIDE = -2, STATE = -3, FULL = -4;
    private static final int MIN = Integer.MIN_VALUE, MAX = Integer.MAX_VALUE;
    private static final Check check = new Check("RangesTest");

    public static void main(String[] args) {
        peopleOneToTen();
        weightNoughtToNine();
        kindNoughtToThree();
        leanMinusNineToNine();
        whatOfSet();
        whatOfAbout();
        whatOfRun();
        whatOfRing();
        whatOfCount();
        personsOfEachTown();
        dressesOfEachTown();
        wayNoughtAndOne();
        stepsNoughtToTenThousand();
        ringNumbers();
        restNumbers();
        drawsNoughtToFour();
        weeksEightAtMost();
        shopStepsOneToFifty();
        stockNoughtToFiveHundred();
        costAndPriceOneToNinetyNine();
        check.end();
    }

    private static void due(NotLikeThem x, String call, long want) {
        check.due(call, Calls.answer(x, call), want);
    }

    private static boolean isRefusal(long answer) {
        return answer == UNKNOWN || answer == OUTSIDE || answer == STATE || answer == FULL;
    }

    /** "PEOPLE 0 to n - 1 (1 to 10; 4 at first)" */
    private static void peopleOneToTen() {
        NotLikeThem x = new NotLikeThem();
        int were = 4;
        for (int n = 1; n <= 10; n++) {
            due(x, "people(" + n + ")", were);
            due(x, "people(0)", OUTSIDE);
            due(x, "people(11)", OUTSIDE);
            due(x, "count(0)", n);
            were = n;
        }
        for (int n : new int[] {-1, -10, 12, 16, 32, 33, 256 + 4, 65536 + 4, MIN, MIN + 4, MAX}) {
            check.due("people(" + n + ")", x.people(n), OUTSIDE);
        }
        due(x, "count(0)", 10);
        due(x, "people(1)", 10);
        due(x, "people(10)", 1);
    }

    /** "a PERSON sees another one by a WEIGHT (0 to 9; 0 at first: not at all)" */
    private static void weightNoughtToNine() {
        NotLikeThem x = new NotLikeThem();
        due(x, "sees(0, 1)", 0);
        due(x, "about(0, 2)", 0);
        for (int w = 0; w <= 9; w++) {
            check.due("tie(0, 1, " + w + ")", x.tie(0, 1, w), Math.max(0, w - 1));
            due(x, "tie(0, 1, -1)", OUTSIDE);
            due(x, "tie(0, 1, 10)", OUTSIDE);
            due(x, "sees(0, 1)", w);
            due(x, "sum(0, 2)", w);
            due(x, "sum(0, 0)", -w);
            due(x, "about(0, 2)", w == 0 ? 0 : 1);
            due(x, "about(1, 3)", w == 0 ? 0 : 1);
            due(x, "count(1)", w == 0 ? 0 : 1);
        }
        for (int w : new int[] {11, 256, 65536, -9, MIN, MAX}) check.due("tie(0, 1, " + w + ")", x.tie(0, 1, w), OUTSIDE);
        due(x, "tie(0, 1, 0)", 9);
        due(x, "about(0, 2)", 0);
        due(x, "count(1)", 0);
    }

    /** "A KIND each: 0 FOLLOWS (as at first), 1 FLEES, 2 FIRM, 3 TIRED" */
    private static void kindNoughtToThree() {
        NotLikeThem x = new NotLikeThem();
        due(x, "about(3, 0)", 0);
        due(x, "set(3, 0, 0)", 0);
        due(x, "set(3, 0, 3)", 0);
        due(x, "set(3, 0, 4)", OUTSIDE);
        due(x, "set(3, 0, -1)", OUTSIDE);
        due(x, "set(3, 0, 9)", OUTSIDE);
        due(x, "set(3, 0, -9)", OUTSIDE);
        due(x, "set(3, 0, MIN)", OUTSIDE);
        due(x, "set(3, 0, MAX)", OUTSIDE);
        due(x, "about(3, 0)", 3);
        due(x, "set(3, 0, 0)", 3);
        due(x, "about(3, 0)", 0);
    }

    /** "a LEAN (-9 to 9; 0 at first)" */
    private static void leanMinusNineToNine() {
        NotLikeThem x = new NotLikeThem();
        due(x, "about(3, 1)", 0);
        int was = 0;
        for (int lean = -9; lean <= 9; lean++) {
            check.due("set(3, 1, " + lean + ")", x.set(3, 1, lean), was);
            due(x, "set(3, 1, -10)", OUTSIDE);
            due(x, "set(3, 1, 10)", OUTSIDE);
            due(x, "about(3, 1)", lean);
            due(x, "sum(3, 0)", lean);
            was = lean;
        }
        due(x, "set(3, 1, MIN)", OUTSIDE);
        due(x, "set(3, 1, MAX)", OUTSIDE);
        due(x, "about(3, 1)", 9);
    }

    /** "KIND of a PERSON (what = 0), LEAN (1)" */
    private static void whatOfSet() {
        NotLikeThem x = new NotLikeThem();
        due(x, "set(1, 0, 2)", 0);
        due(x, "set(1, 1, 3)", 0);
        due(x, "set(1, 2, 0)", OUTSIDE);
        due(x, "set(1, -1, 0)", OUTSIDE);
        due(x, "set(1, 3, 1)", OUTSIDE);
        due(x, "set(1, MIN, 1)", OUTSIDE);
        due(x, "set(1, MAX, 1)", OUTSIDE);
        due(x, "set(1, 0, 0)", 2);
        due(x, "set(1, 1, 0)", 3);
    }

    /** "KIND (what = 0), LEAN (1), how many it sees (2), by how many it is seen (3)" */
    private static void whatOfAbout() {
        NotLikeThem x = Calls.town("set(1, 0, 3)", "set(1, 1, 7)", "tie(1, 0, 9)", "tie(1, 3, 1)", "tie(2, 1, 5)");
        due(x, "about(1, -1)", OUTSIDE);
        due(x, "about(1, 0)", 3);
        due(x, "about(1, 1)", 7);
        due(x, "about(1, 2)", 2);
        due(x, "about(1, 3)", 1);
        due(x, "about(1, 4)", OUTSIDE);
        due(x, "about(1, MIN)", OUTSIDE);
        due(x, "about(1, MAX)", OUTSIDE);
    }

    /** "STEPS till ENTERED (what = 0), ENTERED (1), LONG (2)" */
    private static void whatOfRun() {
        // 3 is TIRED, 2 follows it, 1 follows 2, 0 follows 1: from 0 it goes by 8 and 4 to 10, 5, 10.
        NotLikeThem x = Calls.town("tie(0, 1, 1)", "tie(1, 2, 1)", "tie(2, 3, 1)", "set(3, 0, 3)");
        due(x, "run(0, 0, -1)", OUTSIDE);
        due(x, "run(0, 0, 0)", 3);
        due(x, "run(0, 0, 1)", 10);
        due(x, "run(0, 0, 2)", 2);
        due(x, "run(0, 0, 3)", OUTSIDE);
        due(x, "run(0, 0, MIN)", OUTSIDE);
        due(x, "run(0, 0, MAX)", OUTSIDE);
    }

    /** "its least DRESS (what = 0), LONG (1), how many DRESSES it DRAWS (2), the most STEPS (3)" */
    private static void whatOfRing() {
        // The same four: all DRESSES come to 5 and 10.
        NotLikeThem x = Calls.town("tie(0, 1, 1)", "tie(1, 2, 1)", "tie(2, 3, 1)", "set(3, 0, 3)");
        due(x, "ring(0, 0, -1)", OUTSIDE);
        due(x, "ring(0, 0, 0)", 5);
        due(x, "ring(0, 0, 1)", 2);
        due(x, "ring(0, 0, 2)", 16);
        due(x, "ring(0, 0, 3)", 3);
        due(x, "ring(0, 0, 4)", OUTSIDE);
        due(x, "ring(0, 0, MIN)", OUTSIDE);
        due(x, "ring(0, 0, MAX)", OUTSIDE);
    }

    /** "0 PEOPLE, 1 TIES (WEIGHTS above 0), 2 WEEKS, 3 PEOPLE that FOLLOW, 4 that FLEE" */
    private static void whatOfCount() {
        NotLikeThem x = Calls.town("people(7)", "tie(0, 6, 1)", "tie(6, 0, 9)", "tie(1, 2, 1)", "tie(1, 2, 0)", "week(127)",
                "set(0, 0, 1)", "set(1, 0, 2)", "set(2, 0, 3)", "set(3, 0, 1)", "set(4, 0, 1)", "set(5, 0, 1)");
        due(x, "count(-1)", OUTSIDE);
        due(x, "count(0)", 7);
        due(x, "count(1)", 2);
        due(x, "count(2)", 1);
        due(x, "count(3)", 1);
        due(x, "count(4)", 4);
        due(x, "count(5)", OUTSIDE);
        due(x, "count(MIN)", OUTSIDE);
        due(x, "count(MAX)", OUTSIDE);
    }

    /** "UNKNOWN (there is no such PERSON ..)": in each TOWN, in each call that takes one. */
    private static void personsOfEachTown() {
        for (int n = 1; n <= 10; n++) {
            int last = n - 1;
            for (String call : Calls.ofAPerson(0)) {
                NotLikeThem x = Calls.town("people(10)", "set(9, 1, 1)", "tie(9, 8, 1)", "people(" + n + ")");
                for (int p = 0; p < n; p++) {
                    // Each is CALM in DRESS 0; and nobody is another one than 0 itself.
                    boolean both = p == 0 && (call.startsWith("tie") || call.startsWith("sees"));
                    long want = both || call.startsWith("lone") ? STATE : call.startsWith("maybe") ? 15 : 0;
                    due(x, call.replace("#", "" + p), want);
                }
                int[] unknown = {-1, n, n + 1, -2, 10, 31, 32, 32 + last, 64, MIN, MIN + last, MAX};
                for (int p : unknown) {
                    if (p < 0 || p >= n) due(x, call.replace("#", "" + p), UNKNOWN);
                }
            }
        }
    }

    /** "A DRESS is told as bits: bit p: PERSON p wears 1": in each TOWN, in each call that takes one. */
    private static void dressesOfEachTown() {
        for (int n = 1; n <= 10; n++) {
            int last = (1 << n) - 1;
            for (String call : Calls.ofADress()) {
                NotLikeThem x = Calls.town("people(10)", "set(9, 1, 1)", "people(" + n + ")");
                boolean lone = call.startsWith("lone");
                // Nobody sees anyone: lone is refused, but as STATE, since all are CALM.
                for (int d : new int[] {0, last}) {
                    long answer = Calls.answer(x, call.replace("#", "" + d));
                    check.isTrue(n + " people: " + call + " takes " + d, lone ? answer == STATE : !isRefusal(answer));
                }
                for (int d : new int[] {-1, last + 1, -last - 1, last + 2, MIN, MIN + last, MAX, 1 << 30, 1 << 16}) {
                    due(x, call.replace("#", "" + d), OUTSIDE);
                }
            }
        }
    }

    /** "A STEP by WAY 0 (AT ONCE) .. By WAY 1 (IN ORDER)": in each call that takes one. */
    private static void wayNoughtAndOne() {
        for (String call : Calls.ofAWay()) {
            NotLikeThem x = new NotLikeThem();
            // Nobody sees anyone: all DRESSES rest, and one piece of clothing costs 1 from each of 16.
            boolean one = call.startsWith("longest") || call.equals("run(0, #, 2)") || call.equals("ring(#, 0, 1)") || call.equals("ring(#, 0, 2)");
            long want = one ? 1 : call.startsWith("rings") ? 16 : call.startsWith("gain") ? -16 : 0;
            due(x, call.replace("#", "-1"), OUTSIDE);
            due(x, call.replace("#", "0"), want);
            due(x, call.replace("#", "1"), want);
            due(x, call.replace("#", "2"), OUTSIDE);
            due(x, call.replace("#", "MIN"), OUTSIDE);
            due(x, call.replace("#", "MAX"), OUTSIDE);
        }
    }

    /** "The DRESS behind so many STEPS (0 to 10000)" */
    private static void stepsNoughtToTenThousand() {
        // A RING of three, one of whom flees: 6 STEPS AT ONCE, 4 IN ORDER.
        NotLikeThem x = Calls.town("people(3)", "tie(0, 1, 1)", "tie(1, 2, 1)", "tie(2, 0, 1)", "set(0, 0, 1)");
        int[] atOnce = {0, 1, 5, 7, 6, 2};
        int[] inOrder = {0, 5, 7, 2};
        int[] steps = {0, 1, 2, 5, 6, 7, 9998, 9999, 10000};
        for (int i : steps) {
            due(x, "after(0, 0, " + i + ")", atOnce[i % 6]);
            due(x, "after(0, 1, " + i + ")", inOrder[i % 4]);
        }
        for (int way = 0; way < 2; way++) {
            for (String wrong : new String[] {"-1", "10001", "10006", "MIN", "MAX"}) {
                due(x, "after(0, " + way + ", " + wrong + ")", OUTSIDE);
            }
        }
        // From 3 it is entered IN ORDER behind one STEP.
        due(x, "after(3, 1, 0)", 3);
        due(x, "after(3, 1, 1)", 0);
        due(x, "after(3, 1, 10000)", 2);
    }

    /** "UNKNOWN (there is no such .. RING ..)" */
    private static void ringNumbers() {
        // All go a RING of one: 1 of one PERSON's two DRESSES; then as many as there are DRESSES.
        NotLikeThem x = Calls.town("people(1)", "set(0, 1, 1)");
        hasRings(x, 0, 1, 1);
        hasRings(x, 1, 1, 1);
        x = Calls.town("people(1)", "set(0, 0, 3)");
        hasRings(x, 0, 1, 0);
        hasRings(x, 1, 1, 0);
        for (int n = 1; n <= 10; n++) {
            x = Calls.town("people(10)", "people(" + n + ")");
            hasRings(x, 0, 1 << n, (1 << n) - 1);
            hasRings(x, 1, 1 << n, (1 << n) - 1);
        }
    }

    private static void hasRings(NotLikeThem x, int way, int many, int lastLeast) {
        due(x, "rings(" + way + ")", many);
        due(x, "ring(" + way + ", " + (many - 1) + ", 0)", lastLeast);
        for (int what = 0; what < 4; what++) {
            due(x, "ring(" + way + ", -1, " + what + ")", UNKNOWN);
            due(x, "ring(" + way + ", " + many + ", " + what + ")", UNKNOWN);
        }
        due(x, "ring(" + way + ", MIN, 0)", UNKNOWN);
        due(x, "ring(" + way + ", MAX, 0)", UNKNOWN);
    }

    /** "UNKNOWN (there is no such .. REST ..)" */
    private static void restNumbers() {
        hasRests(Calls.town("people(1)", "set(0, 0, 3)"), 0, -1);
        hasRests(Calls.town("people(1)", "set(0, 1, -9)"), 1, 0);
        hasRests(Calls.town("people(1)", "set(0, 1, 9)"), 1, 1);
        for (int n = 1; n <= 10; n++) hasRests(Calls.town("people(10)", "people(" + n + ")"), 1 << n, (1 << n) - 1);
        NotLikeThem x = Calls.town("people(10)");
        for (int p = 0; p < 10; p++) x.set(p, 1, 1);
        hasRests(x, 1, 1023);
    }

    private static void hasRests(NotLikeThem x, int many, int last) {
        due(x, "rests()", many);
        if (many > 0) {
            due(x, "rest(" + (many - 1) + ")", last);
            due(x, "may(" + last + ", " + (many - 1) + ")", 1);
        }
        for (String wrong : new String[] {"-1", "" + many, "MIN", "MAX"}) {
            due(x, "rest(" + wrong + ")", UNKNOWN);
            due(x, "may(0, " + wrong + ")", UNKNOWN);
        }
    }

    /** "the chance to be at a REST behind n draws (0 to 4)" */
    private static void drawsNoughtToFour() {
        // Four who lean to 1 from 0: at a REST behind the fourth draw, not ahead of it.
        NotLikeThem x = Calls.town("set(0, 1, 1)", "set(1, 1, 1)", "set(2, 1, 1)", "set(3, 1, 1)");
        for (int draws = 0; draws <= 4; draws++) {
            due(x, "likely(0, " + draws + ", true)", draws == 4 ? 1 : 0);
            due(x, "likely(0, " + draws + ", false)", 1);
            due(x, "likely(1, " + draws + ", true)", draws >= 3 ? 1 : 0);
            due(x, "likely(15, " + draws + ", true)", 1);
        }
        for (String wrong : new String[] {"-1", "5", "MIN", "MAX"}) {
            due(x, "likely(0, " + wrong + ", true)", OUTSIDE);
            due(x, "likely(0, " + wrong + ", false)", OUTSIDE);
            due(x, "likely(15, " + wrong + ", true)", OUTSIDE);
        }
    }

    /** "DRESSES of WEEKS 0, 1, .. (8 at most)" */
    private static void weeksEightAtMost() {
        NotLikeThem x = new NotLikeThem();
        for (int round = 0; round < 2; round++) {
            due(x, "count(2)", 0);
            for (int i = 1; i <= 8; i++) {
                due(x, "week(" + i + ")", i);
                due(x, "count(2)", i);
            }
            due(x, "week(9)", FULL);
            due(x, "week(0)", FULL);
            due(x, "count(2)", 8);
            due(x, "wipe()", 8);
        }
        due(x, "wipe()", 0);
    }

    /** "in a RUN of n STEPS (1 to 50)" */
    private static void shopStepsOneToFifty() {
        // One who is TIRED asks for one each other STEP; by a stock of 25 and 1 for 2 each STEP tells.
        NotLikeThem x = Calls.town("people(1)", "set(0, 0, 3)");
        for (int way = 0; way < 2; way++) {
            due(x, "asked(0, " + way + ", 1)", 1);
            due(x, "asked(1, " + way + ", 1)", 0);
            due(x, "asked(1, " + way + ", 49)", 24);
            due(x, "asked(1, " + way + ", 50)", 25);
            due(x, "gain(" + way + ", 1, 25, 1, 2)", 2 - 50);
            due(x, "gain(" + way + ", 49, 25, 1, 2)", 98 - 50);
            due(x, "gain(" + way + ", 50, 25, 1, 2)", 100 - 50);
            due(x, "order(" + way + ", 1, 1, 3)", 1);
            due(x, "order(" + way + ", 49, 2, 3)", 24);
            due(x, "order(" + way + ", 50, 2, 3)", 25);
            for (String wrong : new String[] {"0", "51", "-1", "MIN", "MAX"}) {
                due(x, "asked(0, " + way + ", " + wrong + ")", OUTSIDE);
                due(x, "gain(" + way + ", " + wrong + ", 25, 1, 2)", OUTSIDE);
                due(x, "order(" + way + ", " + wrong + ", 1, 3)", OUTSIDE);
            }
        }
    }

    /** "It orders s clothes (0 to 500)" */
    private static void stockNoughtToFiveHundred() {
        NotLikeThem x = Calls.town("people(1)", "set(0, 0, 3)");
        due(x, "gain(0, 50, 0, 99, 1)", 0);
        due(x, "gain(0, 50, 1, 99, 1)", 2 - 2 * 99);
        due(x, "gain(0, 50, 499, 1, 99)", 50 * 99 - 2 * 499);
        due(x, "gain(0, 50, 500, 1, 99)", 50 * 99 - 2 * 500);
        for (String wrong : new String[] {"-1", "501", "MIN", "MAX"}) due(x, "gain(0, 50, " + wrong + ", 1, 99)", OUTSIDE);
    }

    /** "at a COST each, and sells at a PRICE each (1 to 99 both)" */
    private static void costAndPriceOneToNinetyNine() {
        NotLikeThem x = Calls.town("people(1)", "set(0, 0, 3)");
        due(x, "gain(0, 50, 10, 1, 1)", 0);
        due(x, "gain(0, 50, 10, 99, 99)", 0);
        due(x, "gain(0, 50, 10, 1, 99)", 20 * 98);
        due(x, "gain(0, 50, 10, 99, 1)", -20 * 98);
        due(x, "order(0, 50, 1, 1)", 0);
        due(x, "order(0, 50, 99, 99)", 0);
        due(x, "order(0, 50, 1, 99)", 25);
        due(x, "order(0, 50, 99, 1)", 0);
        for (String wrong : new String[] {"0", "100", "-1", "-99", "MIN", "MAX"}) {
            due(x, "gain(0, 50, 10, " + wrong + ", 50)", OUTSIDE);
            due(x, "gain(0, 50, 10, 50, " + wrong + ")", OUTSIDE);
            due(x, "order(0, 50, " + wrong + ", 50)", OUTSIDE);
            due(x, "order(0, 50, 50, " + wrong + ")", OUTSIDE);
        }
    }
}
