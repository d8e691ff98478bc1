/**
 * The empty and the full, the first and the last, and where the document's words turn from one answer
 * to the other: each sentence that names such a case has a test of its own here, reckoned by hand.
 */
public final class ExtremesTest {
    private static final int UNKNOWN = -1, STATE = -3, FULL = -4, NONE = -9;
    private static final Check check = new Check("ExtremesTest");

    public static void main(String[] args) {
        noTiesAndAllTies();
        onePerson();
        peopleOfTheSameNumber();
        peopleOfASmallerNumber();
        changesAreSeenAtOnce();
        sumAtItsGreatestAndLeast();
        nextBySumsAboutNought();
        firmAndTiredWhateverTheSum();
        allButOneCalmIsNoRest();
        restsAreTheFirstAndTheLast();
        theOnlyRestIsAnyDress();
        inOrderFromTheFirstToTheLast();
        enteredAtOnceAndLate();
        ringsOfLongOneToo();
        ringsByTheirLeast();
        drawsItsOwnToo();
        longestOfAll();
        farthestIsTheFirstOrTheLast();
        evenMissedByALittle();
        heatAtItsGreatestAndLeast();
        heatOfFirmOnes();
        loneTurnsTheFirstAndTheLast();
        witnessFirstLastAndNone();
        witnessIsTheLeastOfItsRound();
        settledOneByOneNotAtOnce();
        turnNobodySomeNone();
        turnedOfAsManyTheLeast();
        holdNobodyAndAll();
        holdTheLeastDress();
        mayFromItself();
        maysOfNoneAndAll();
        soonNoughtAndFar();
        soonNone();
        likelyNoughtAndOne();
        likelyInLeastTerms();
        likelyBeyondAnInt();
        pictureOfNoWeekAndOne();
        pictureCountsFirstAndLastStep();
        pictureFullThenWiped();
        pictureGoneWithThePeople();
        waysOneAndMost();
        takeNobodyAndAll();
        takeRefusedByTheLast();
        askedNothingAndMost();
        gainOfNoStockAndTooMuch();
        orderOfLikeOnesTheLeast();
        orderNothingAndMost();
        countNoughtAndAll();
        askedAgainTheAnswerIsTheSame();
        theLastOf512Calls();
        check.end();
    }

    private static void due(NotLikeThem x, String call, long want) {
        check.due(call, Calls.answer(x, call), want);
    }

    private static void dues(NotLikeThem x, String call, long... wants) {
        for (int i = 0; i < wants.length; i++) due(x, call.replace("#", "" + i), wants[i]);
    }

    private static NotLikeThem ofKind(int n, int kind) {
        NotLikeThem x = new NotLikeThem();
        x.people(n);
        for (int p = 0; p < n; p++) x.set(p, 0, kind);
        return x;
    }

    private static NotLikeThem leaning(int n, int lean) {
        NotLikeThem x = new NotLikeThem();
        x.people(n);
        for (int p = 0; p < n; p++) x.set(p, 1, lean);
        return x;
    }

    private static void bothWays(NotLikeThem x, int p, int q, int weight) {
        x.tie(p, q, weight);
        x.tie(q, p, weight);
    }

    /** Each sees each other one by 9. */
    private static void allTies(NotLikeThem x) {
        int n = x.count(0);
        for (int p = 0; p < n; p++) {
            for (int q = 0; q < p; q++) bothWays(x, p, q, 9);
        }
    }

    /** 2i follows 2i + 1, which flees it: each such pair always has one that is not CALM. */
    private static NotLikeThem chases(int n) {
        NotLikeThem x = new NotLikeThem();
        x.people(n);
        for (int p = 0; p + 1 < n; p += 2) {
            bothWays(x, p, p + 1, 1);
            x.set(p + 1, 0, 1);
        }
        return x;
    }

    // ---- the town

    private static void noTiesAndAllTies() {
        for (int n = 1; n <= 10; n++) {
            NotLikeThem x = Calls.town("people(" + n + ")");
            due(x, "count(1)", 0);
            due(x, "about(0, 2)", 0);
            due(x, "about(" + (n - 1) + ", 3)", 0);
            allTies(x);
            due(x, "count(1)", n * (n - 1));
            due(x, "about(0, 2)", n - 1);
            due(x, "about(" + (n - 1) + ", 3)", n - 1);
        }
    }

    private static void onePerson() {
        NotLikeThem x = Calls.town("people(1)");
        due(x, "tie(0, 0, 1)", STATE);
        due(x, "sees(0, 0)", STATE);
        due(x, "tie(0, 1, 1)", UNKNOWN);
        dues(x, "sum(0, #)", 0, 0);
        dues(x, "calm(#)", 1, 1);
        dues(x, "rest(#)", 0, 1, UNKNOWN);
        dues(x, "heat(#)", 10000, 10000);
        due(x, "even()", 1);
        due(x, "settled()", 1);
        due(x, "ways()", 4);
        due(x, "set(0, 0, 3)", 0);
        dues(x, "calm(#)", 0, 0);
        dues(x, "after(#, 0, 10000)", 0, 1);
        dues(x, "after(#, 1, 9999)", 1, 0);
        due(x, "rests()", 0);
        due(x, "longest(1)", 2);
        due(x, "settled()", 0);
        due(x, "witness()", 0);
        due(x, "hold(false)", 1);
        due(x, "hold(true)", 0);
        due(x, "even()", 0);
        due(x, "count(3)", 0);
    }

    /** "Another TOWN of so many PEOPLE: all as at first, no PICTURE": of as many as there were, too. */
    private static void peopleOfTheSameNumber() {
        for (int n : new int[] {1, 4, 10}) {
            NotLikeThem x = leaning(n, 9);
            allTies(x);
            for (int p = 0; p < n; p++) x.set(p, 0, 3);
            for (int i = 0; i < 8; i++) x.week(1);
            due(x, "rests()", 0);
            due(x, "rings(1)", 1 << (n - 1));
            due(x, "people(" + n + ")", n);
            dues(x, "count(#)", n, 0, 0, n, 0);
            dues(x, "about(" + (n - 1) + ", #)", 0, 0, 0, 0);
            due(x, "rests()", 1 << n);
            due(x, "rings(1)", 1 << n);
            due(x, "week(0)", 1);
        }
    }

    /** A smaller TOWN finds nothing of those who are no more, a greater one nothing of those who were. */
    private static void peopleOfASmallerNumber() {
        NotLikeThem x = leaning(10, 9);
        for (int p = 0; p < 10; p++) x.set(p, 0, 3);
        for (int n = 9; n >= 1; n--) {
            due(x, "rests()", 0);
            due(x, "people(" + n + ")", n + 1);
            due(x, "rests()", 1 << n);
            due(x, "rest(0)", 0);
            due(x, "calm(0)", (1 << n) - 1);
            due(x, "mays(0)", 1);
            due(x, "rings(0)", 1 << n);
            due(x, "settled()", 1);
            for (int p = 0; p < n; p++) x.set(p, 0, 3);
        }
        due(x, "people(10)", 1);
        due(x, "rests()", 1024);
        due(x, "sum(9, 0)", 0);
    }

    /** What has been asked before must not outlive a change, be it the least one. */
    private static void changesAreSeenAtOnce() {
        NotLikeThem x = Calls.town("people(2)");
        String[] changes = {"tie(0, 1, 1)", "tie(0, 1, 0)", "set(0, 1, 1)", "set(0, 1, 0)", "set(0, 0, 3)", "set(0, 0, 2)"};
        int[] were = {0, 1, 0, 1, 0, 3};
        int[] rests = {2, 4, 2, 4, 0, 4};
        int[] rings = {2, 4, 2, 4, 2, 4};
        int[] behind = {3, 2, 3, 2, 3, 2};
        int[] soon = {1, 0, 1, 0, NONE, 0};
        due(x, "rests()", 4);
        due(x, "rings(0)", 4);
        due(x, "rings(1)", 4);
        for (int i = 0; i < changes.length; i++) {
            due(x, changes[i], were[i]);
            due(x, "rests()", rests[i]);
            due(x, "rings(0)", rings[i]);
            due(x, "rings(1)", rings[i]);
            due(x, "after(2, 1, 1)", behind[i]);
            due(x, "after(2, 0, 1)", behind[i]);
            due(x, "soon(2)", soon[i]);
            due(x, "asked(2, 0, 1)", behind[i] - 2);
        }
    }

    // ---- steps

    /** "WEIGHTS of all it sees that wear 1, less those of all it sees that wear 0, and its LEAN" */
    private static void sumAtItsGreatestAndLeast() {
        NotLikeThem x = leaning(10, 9);
        allTies(x);
        due(x, "sum(0, 1023)", 90);
        due(x, "sum(9, 1023)", 90);
        due(x, "sum(0, 0)", -72);
        // What one wears itself is no part of it.
        due(x, "sum(0, 1022)", 90);
        due(x, "sum(9, 511)", 90);
        due(x, "set(9, 1, -9)", 9);
        due(x, "sum(9, 0)", -90);
        due(x, "sum(9, 512)", -90);
        due(x, "sum(9, 511)", 72);
    }

    /** "1 by a SUM above 0, 0 by one below, what it wears by 0", and the other way about */
    private static void nextBySumsAboutNought() {
        int[][] due = {
            // KIND, SUM, NEXT of one who wears 0, of one who wears 1
            {0, -1, 0, 0}, {0, 0, 0, 1}, {0, 1, 1, 1}, {1, -1, 1, 1}, {1, 0, 0, 1}, {1, 1, 0, 0},
        };
        for (int[] row : due) {
            // The SUM of 2 is that of 4 and 5 less, and a LEAN: -1 is 4 - 5, 0 is 5 - 5, 1 is 5 - 5 and 1.
            NotLikeThem x = Calls.town("people(3)", "tie(2, 0, " + (row[1] < 0 ? 4 : 5) + ")", "tie(2, 1, 5)");
            x.set(2, 0, row[0]);
            x.set(2, 1, row[1] > 0 ? 1 : 0);
            due(x, "sum(2, 1)", row[1]);
            for (int worn = 0; worn < 2; worn++) {
                int dress = 1 + 4 * worn;
                int then = 1 + 4 * row[2 + worn];
                due(x, "after(" + dress + ", 0, 1)", then);
                due(x, "after(" + dress + ", 1, 1)", then);
                due(x, "calm(" + dress + ")", then == dress ? 7 : 3);
            }
        }
    }

    private static void firmAndTiredWhateverTheSum() {
        for (int lean = -9; lean <= 9; lean += 9) {
            for (int kind = 2; kind < 4; kind++) {
                NotLikeThem x = leaning(10, lean);
                allTies(x);
                for (int p = 0; p < 10; p++) x.set(p, 0, kind);
                for (int dress : new int[] {0, 1, 512, 1022, 1023}) {
                    due(x, "calm(" + dress + ")", kind == 2 ? 1023 : 0);
                    due(x, "after(" + dress + ", 0, 1)", kind == 2 ? dress : 1023 - dress);
                    due(x, "after(" + dress + ", 1, 1)", kind == 2 ? dress : 1023 - dress);
                }
            }
        }
    }

    private static void inOrderFromTheFirstToTheLast() {
        // Each follows the one ahead of it, 0 follows the last: a 1 goes all the way in one STEP.
        NotLikeThem x = Calls.town("people(10)", "tie(0, 9, 1)");
        for (int p = 1; p < 10; p++) x.tie(p, p - 1, 1);
        due(x, "after(512, 1, 1)", 1023);
        due(x, "after(511, 1, 1)", 0);
        due(x, "after(512, 0, 1)", 1);
        due(x, "after(1, 0, 1)", 2);
        // 0 does not see what the last comes to wear by that STEP.
        due(x, "after(1, 1, 1)", 0);
        // The other way round it takes a STEP each: 0 alone sees 1 as it was.
        x = Calls.town("people(10)");
        for (int p = 0; p < 9; p++) x.tie(p, p + 1, 1);
        due(x, "after(512, 1, 1)", 512 + 256);
        due(x, "after(512, 1, 8)", 1022);
        due(x, "after(512, 1, 9)", 1023);
    }

    /** "ENTERED is the first such DRESS, behind so many STEPS" */
    private static void enteredAtOnceAndLate() {
        NotLikeThem x = leaning(4, 1);
        dues(x, "run(15, 0, #)", 0, 15, 1);
        dues(x, "run(15, 1, #)", 0, 15, 1);
        dues(x, "run(0, 0, #)", 1, 15, 1);
        // All go behind the first, who is FIRM, one each STEP.
        x = Calls.town("people(10)", "set(0, 0, 2)");
        for (int p = 1; p < 10; p++) x.tie(p, p - 1, 1);
        dues(x, "run(1, 0, #)", 9, 1023, 1);
        dues(x, "run(1022, 0, #)", 9, 0, 1);
        dues(x, "run(1022, 1, #)", 1, 0, 1);
        // The first is TIRED: from 0 the last is behind it by 9 STEPS.
        x.set(0, 0, 3);
        due(x, "run(0, 0, 0)", 9);
        due(x, "run(0, 0, 2)", 2);
        due(x, "run(341, 0, 0)", 0);
        dues(x, "run(341, 0, #)", 0, 341, 2);
    }

    /** "RINGS of a WAY are all of them (those of LONG 1, too)" */
    private static void ringsOfLongOneToo() {
        // Two that follow one another AT ONCE: 0, {1, 2}, 3.
        NotLikeThem x = Calls.town("people(2)", "tie(0, 1, 1)", "tie(1, 0, 1)");
        due(x, "rings(0)", 3);
        dues(x, "ring(0, #, 0)", 0, 1, 3, UNKNOWN);
        dues(x, "ring(0, #, 1)", 1, 2, 1, UNKNOWN);
        due(x, "rings(1)", 2);
        dues(x, "ring(1, #, 0)", 0, 3, UNKNOWN);
        dues(x, "ring(1, #, 2)", 2, 2, UNKNOWN);
        dues(x, "ring(1, #, 3)", 1, 1, UNKNOWN);
    }

    /** "numbered by their least DRESSES", not by the DRESSES that come to them */
    private static void ringsByTheirLeast() {
        // 1 is FIRM, 0 flees it: 0 comes to {1}, 3 to {2}.
        NotLikeThem x = Calls.town("people(2)", "set(1, 0, 2)", "set(0, 0, 1)", "tie(0, 1, 1)");
        dues(x, "ring(0, #, 0)", 1, 2, UNKNOWN);
        // 2 is FIRM; 0 and 1 follow it where it wears 0, and go round where it wears 1, from 4 on.
        x = Calls.town("people(3)", "set(2, 0, 2)", "tie(0, 1, 1)", "tie(1, 0, 1)", "set(1, 0, 1)", "tie(0, 2, 2)",
                "set(0, 1, -2)");
        due(x, "rings(0)", 2);
        dues(x, "ring(0, #, 0)", 2, 4, UNKNOWN);
        dues(x, "ring(0, #, 1)", 1, 4, UNKNOWN);
    }

    /** "A RING DRAWS as many DRESSES as come to it at last (its own, too)" */
    private static void drawsItsOwnToo() {
        NotLikeThem x = ofKind(10, 2);
        due(x, "ring(0, 0, 2)", 1);
        due(x, "ring(0, 1023, 2)", 1);
        due(x, "ring(0, 1023, 3)", 0);
        x = ofKind(10, 3);
        due(x, "rings(0)", 512);
        due(x, "ring(0, 0, 2)", 2);
        due(x, "ring(0, 511, 2)", 2);
        due(x, "ring(0, 511, 3)", 0);
        x = leaning(10, 1);
        due(x, "rings(0)", 1);
        dues(x, "ring(0, 0, #)", 1023, 1, 1024, 1);
    }

    private static void longestOfAll() {
        due(ofKind(10, 2), "longest(0)", 1);
        due(ofKind(10, 3), "longest(0)", 2);
        // Each follows the one ahead, 0 flees the last: 20 STEPS till all are as they were.
        NotLikeThem x = Calls.town("people(10)", "tie(0, 9, 1)", "set(0, 0, 1)");
        for (int p = 1; p < 10; p++) x.tie(p, p - 1, 1);
        due(x, "longest(0)", 20);
        due(x, "run(0, 0, 2)", 20);
        due(x, "after(0, 0, 10)", 1023);
        due(x, "after(0, 0, 20)", 0);
        due(x, "longest(1)", 2);
    }

    /** "the most STEPS that one comes to it": from DRESS 0 alone, from the last DRESS alone */
    private static void farthestIsTheFirstOrTheLast() {
        // 0 flees 1, 1 follows 0: by these LEANS 0 goes to 1, 3, 2 and rests there.
        NotLikeThem x = Calls.town("people(2)", "set(0, 0, 1)", "tie(0, 1, 2)", "tie(1, 0, 1)", "set(0, 1, -1)", "set(1, 1, 1)");
        dues(x, "run(#, 0, 0)", 3, 2, 0, 1);
        dues(x, "ring(0, 0, #)", 2, 1, 4, 3);
        // By the opposite ones 3 goes to 2, 0, 1.
        x = Calls.town("people(2)", "set(0, 0, 1)", "tie(0, 1, 2)", "tie(1, 0, 1)", "set(0, 1, 1)", "set(1, 1, -1)");
        dues(x, "run(#, 0, 0)", 1, 0, 2, 3);
        dues(x, "ring(0, 0, #)", 1, 1, 4, 3);
    }

    // ---- rests

    private static void allButOneCalmIsNoRest() {
        for (int p = 0; p < 10; p++) {
            NotLikeThem x = ofKind(10, 2);
            x.set(p, 0, 3);
            due(x, "rests()", 0);
            due(x, "calm(0)", 1023 - (1 << p));
            x.set(p, 0, 0);
            x.set(p, 1, 1);
            due(x, "rests()", 512);
            due(x, "rest(0)", 1 << p);
            due(x, "rest(511)", 1023);
            due(x, "rest(512)", UNKNOWN);
        }
    }

    private static void restsAreTheFirstAndTheLast() {
        NotLikeThem x = new NotLikeThem();
        x.people(10);
        allTies(x);
        dues(x, "rest(#)", 0, 1023, UNKNOWN);
        due(leaning(10, -9), "rest(0)", 0);
        due(leaning(10, -9), "rests()", 1);
        due(leaning(10, 9), "rest(0)", 1023);
        due(leaning(10, 9), "rests()", 1);
    }

    /** All that looks for a REST among the DRESSES finds it at their first, at their last, and between. */
    private static void theOnlyRestIsAnyDress() {
        for (int rest = 0; rest < 16; rest++) {
            NotLikeThem x = new NotLikeThem();
            for (int p = 0; p < 4; p++) x.set(p, 1, (rest >> p & 1) == 1 ? 1 : -1);
            dues(x, "rest(#)", rest, UNKNOWN);
            due(x, "rests()", 1);
            due(x, "turn()", 0);
            due(x, "turned()", 0);
            due(x, "hold(false)", 0);
            due(x, "hold(true)", rest);
            due(x, "witness()", NONE);
            dues(x, "ring(0, 0, #)", rest, 1, 16, 1);
            for (int from = 0; from < 16; from++) {
                int far = Integer.bitCount(from ^ rest);
                due(x, "mays(" + from + ")", 1);
                due(x, "may(" + from + ", 0)", 1);
                due(x, "soon(" + from + ")", far);
                due(x, "likely(" + from + ", 4, true)", 1);
                due(x, "likely(" + from + ", 2, true)", far <= 2 ? 1 : 0);
                due(x, "asked(" + from + ", 0, 50)", Integer.bitCount(rest & ~from));
            }
            // Each who comes to wear 1 does so from one half of the DRESSES.
            due(x, "gain(0, 1, 4, 1, 2)", 2 * 8 * Integer.bitCount(rest) - 4 * 16);
        }
    }

    /** "if each two see one another by the same WEIGHT, none is TIRED, and no PERSON that FLEES .." */
    private static void evenMissedByALittle() {
        NotLikeThem x = new NotLikeThem();
        x.people(10);
        due(x, "even()", 1);
        allTies(x);
        due(x, "even()", 1);
        due(x, "tie(9, 8, 8)", 9);
        due(x, "even()", 0);
        due(x, "tie(8, 9, 8)", 9);
        due(x, "even()", 1);
        due(x, "tie(0, 9, 0)", 9);
        due(x, "even()", 0);
        due(x, "tie(9, 0, 0)", 9);
        due(x, "even()", 1);
        due(x, "set(9, 0, 2)", 0);
        due(x, "even()", 1);
        due(x, "set(9, 0, 3)", 2);
        due(x, "even()", 0);
        due(x, "heat(0)", STATE);
        // One that FLEES and sees nobody that FOLLOWS; then by a WEIGHT of 1.
        x = Calls.town("people(10)", "set(9, 0, 1)", "set(8, 0, 2)", "tie(9, 8, 9)", "tie(8, 9, 9)");
        due(x, "even()", 1);
        due(x, "heat(0)", 10000 - 9);
        bothWays(x, 0, 9, 1);
        due(x, "even()", 0);
        due(x, "heat(0)", STATE);
        bothWays(x, 0, 9, 0);
        due(x, "even()", 1);
        // One who is TIRED, seen by nobody.
        due(ofKind(1, 3), "even()", 0);
        due(ofKind(1, 2), "even()", 1);
        due(ofKind(1, 1), "even()", 1);
    }

    private static void heatAtItsGreatestAndLeast() {
        NotLikeThem x = leaning(10, 9);
        allTies(x);
        due(x, "heat(1023)", 10000 + 45 * 9 + 90);
        due(x, "heat(0)", 10000 + 45 * 9 - 90);
        // Five of each: 25 pairs are unlike, 20 alike.
        due(x, "heat(31)", 10000 - 5 * 9);
        for (int p = 0; p < 10; p++) x.set(p, 0, 1);
        due(x, "heat(1023)", 10000 - 45 * 9 - 90);
        due(x, "heat(0)", 10000 - 45 * 9 + 90);
        due(x, "heat(31)", 10000 + 5 * 9);
    }

    /** "for each two that are not both FIRM .. for each that FOLLOWS its LEAN .. that FLEES" */
    private static void heatOfFirmOnes() {
        NotLikeThem x = leaning(2, 9);
        bothWays(x, 0, 1, 9);
        x.set(0, 0, 2);
        dues(x, "heat(#)", 10000 + 9 - 9, 10000 - 9 - 9, 10000 - 9 + 9, 10000 + 9 + 9);
        x.set(1, 0, 1);
        dues(x, "heat(#)", 10000 - 9 + 9, 10000 + 9 + 9, 10000 + 9 - 9, 10000 - 9 - 9);
        x.set(1, 0, 2);
        dues(x, "heat(#)", 10000, 10000, 10000, 10000);
    }

    private static void loneTurnsTheFirstAndTheLast() {
        NotLikeThem x = leaning(10, 1);
        due(x, "lone(0, 0)", 1);
        due(x, "lone(9, 0)", 512);
        due(x, "lone(9, 511)", 1023);
        due(x, "lone(0, 1022)", 1023);
        due(x, "lone(9, 1023)", STATE);
        due(x, "lone(0, 1)", STATE);
        x = leaning(10, -1);
        due(x, "lone(9, 512)", 0);
        due(x, "lone(9, 1023)", 511);
        due(x, "lone(0, 0)", STATE);
    }

    /** "its WITNESS: the least DRESS that some LONE CHANGES bring back to itself"; NONE */
    private static void witnessFirstLastAndNone() {
        due(ofKind(10, 2), "witness()", NONE);
        due(ofKind(10, 2), "settled()", 1);
        due(leaning(10, 9), "witness()", NONE);
        due(leaning(10, 9), "settled()", 1);
        due(ofKind(10, 3), "witness()", 0);
        due(ofKind(10, 3), "settled()", 0);
        // 0 goes round with 1 only where all of 2 to 9, who are FIRM, wear 1: else 0 wears 0.
        NotLikeThem x = ofKind(10, 2);
        x.set(0, 0, 0);
        x.set(1, 0, 1);
        bothWays(x, 0, 1, 1);
        for (int p = 2; p < 10; p++) x.tie(0, p, 1);
        x.set(0, 1, -8);
        due(x, "witness()", 1020);
        due(x, "settled()", 0);
        // 0 leans more than all others can pull: it comes to wear 0, and 1 rests at 1.
        x.set(0, 1, -9);
        x.tie(0, 2, 0);
        due(x, "witness()", NONE);
        due(x, "settled()", 1);
    }

    private static void witnessIsTheLeastOfItsRound() {
        // 0 and 1 go round by 4, 6, 7, 5 as soon as 2 wears 1, to which it leans: from 0 by way of 2 and 6.
        NotLikeThem x = Calls.town("people(3)", "tie(0, 1, 1)", "tie(1, 0, 1)", "set(1, 0, 1)", "tie(0, 2, 2)", "set(0, 1, -2)",
                "set(2, 1, 1)");
        due(x, "lone(1, 0)", 2);
        due(x, "lone(2, 2)", 6);
        due(x, "witness()", 4);
        due(x, "settled()", 0);
    }

    /** "if from no DRESS an endless row of LONE CHANGES goes on", whatever goes round AT ONCE */
    private static void settledOneByOneNotAtOnce() {
        NotLikeThem x = Calls.town("people(2)", "tie(0, 1, 1)", "tie(1, 0, 1)");
        due(x, "run(1, 0, 2)", 2);
        due(x, "settled()", 1);
        due(x, "witness()", NONE);
        // Three that follow one another round: AT ONCE, and one by one too, but not from 0 or 7.
        x = Calls.town("people(3)", "tie(0, 1, 1)", "tie(1, 2, 1)", "tie(2, 0, 1)");
        due(x, "settled()", 0);
        due(x, "witness()", 1);
        due(x, "lone(0, 0)", STATE);
        due(x, "lone(2, 7)", STATE);
    }

    /** "the fewest PEOPLE that FOLLOW or FLEE who would each have to do the other thing"; NONE */
    private static void turnNobodySomeNone() {
        for (int kind = 0; kind < 3; kind++) {
            NotLikeThem x = ofKind(10, kind);
            due(x, "turn()", 0);
            due(x, "turned()", 0);
        }
        NotLikeThem x = chases(10);
        due(x, "turn()", 5);
        due(x, "turned()", 1 + 4 + 16 + 64 + 256);
        // Nobody has been turned by that.
        due(x, "count(3)", 5);
        due(x, "rests()", 0);
        // One who is TIRED can not be turned, be all others at rest.
        for (int p = 0; p < 10; p++) {
            x = ofKind(10, 2);
            x.set(p, 0, 3);
            due(x, "turn()", NONE);
            due(x, "turned()", NONE);
        }
        due(ofKind(1, 3), "turn()", NONE);
        due(ofKind(1, 3), "turned()", NONE);
    }

    /** "of as many those that are the least number as bits" */
    private static void turnedOfAsManyTheLeast() {
        // Of 8 and 9 one must be turned: the first of them, though the RESTS then begin elsewhere.
        NotLikeThem x = Calls.town("people(10)", "tie(8, 9, 1)", "tie(9, 8, 1)", "set(9, 0, 1)");
        due(x, "turn()", 1);
        due(x, "turned()", 256);
        // In DRESS 0 it would be 9: of 8 and 9 the least number counts, not the least DRESS.
        due(x, "calm(0)", 1023 - 512);
        due(x, "set(8, 0, 2)", 0);
        due(x, "turn()", 0);
        due(x, "turned()", 0);
        // 2 alone is fewer than 0 and 1, though 4 is a greater number than 3.
        x = Calls.town("tie(0, 1, 1)", "tie(0, 3, 1)", "tie(1, 0, 3)", "tie(1, 2, 2)", "tie(1, 3, 3)", "tie(2, 0, 2)",
                "tie(2, 1, 2)", "tie(2, 3, 2)", "tie(3, 0, 3)", "tie(3, 1, 2)", "tie(3, 2, 3)", "set(0, 0, 1)",
                "set(1, 0, 1)", "set(2, 0, 1)", "set(1, 1, 1)", "set(2, 1, -1)", "set(3, 1, -1)");
        boolean byTwo = false;
        for (int d = 0; d < 16; d++) byTwo |= x.calm(d) == 15 - 3;
        check.isTrue("some DRESS lacks 0 and 1 alone", byTwo);
        due(x, "turn()", 1);
        due(x, "turned()", 4);
        due(x, "set(2, 0, 0)", 1);
        check.isTrue("there is a REST if 2 is turned", x.rests() > 0);
    }

    /** "the fewest who would have to be FIRM so that there is a REST" */
    private static void holdNobodyAndAll() {
        for (int n = 1; n <= 10; n++) {
            NotLikeThem x = ofKind(n, 3);
            due(x, "hold(false)", n);
            due(x, "hold(true)", 0);
            for (int p = 0; p < n; p++) x.set(p, 0, 2);
            due(x, "hold(false)", 0);
            due(x, "hold(true)", 0);
        }
        due(chases(10), "hold(false)", 5);
        due(leaning(10, 9), "hold(false)", 0);
    }

    /** "and the least DRESS for which as few do" */
    private static void holdTheLeastDress() {
        due(leaning(10, 9), "hold(true)", 1023);
        due(leaning(10, -9), "hold(true)", 0);
        due(chases(10), "hold(true)", 0);
        NotLikeThem x = leaning(10, 9);
        x.set(0, 0, 3);
        due(x, "hold(false)", 1);
        due(x, "hold(true)", 1022);
    }

    // ---- by chance

    private static void mayFromItself() {
        NotLikeThem x = new NotLikeThem();
        x.people(10);
        allTies(x);
        due(x, "may(0, 0)", 1);
        due(x, "may(0, 1)", 0);
        due(x, "may(1023, 0)", 0);
        due(x, "may(1023, 1)", 1);
        due(x, "may(31, 0)", 1);
        due(x, "may(31, 1)", 1);
        due(x, "may(1, 1)", 0);
        due(x, "may(1022, 0)", 0);
    }

    private static void maysOfNoneAndAll() {
        due(ofKind(10, 3), "mays(0)", 0);
        due(ofKind(10, 2), "mays(1023)", 1);
        due(leaning(10, 1), "mays(0)", 1);
        // Five pairs that follow one another, each unlike: each may come to 00 or to 11.
        NotLikeThem x = new NotLikeThem();
        x.people(10);
        for (int p = 0; p < 10; p += 2) bothWays(x, p, p + 1, 1);
        due(x, "rests()", 32);
        due(x, "mays(341)", 32);
        due(x, "mays(1023)", 1);
        due(x, "mays(1022)", 2);
        due(x, "may(341, 0)", 1);
        due(x, "may(341, 31)", 1);
        due(x, "may(1022, 31)", 1);
        due(x, "may(1022, 30)", 1);
        due(x, "may(1022, 29)", 0);
    }

    /** "SOON: the fewest draws to any REST" */
    private static void soonNoughtAndFar() {
        due(ofKind(10, 2), "soon(1023)", 0);
        due(leaning(10, 1), "soon(1023)", 0);
        due(leaning(10, 1), "soon(511)", 1);
        due(leaning(10, 1), "soon(0)", 10);
        due(leaning(10, -1), "soon(1023)", 10);
        // All see all: five of each are five draws from both RESTS, four are four.
        NotLikeThem x = new NotLikeThem();
        x.people(10);
        allTies(x);
        due(x, "soon(31)", 5);
        due(x, "soon(15)", 4);
        due(x, "soon(63)", 4);
    }

    /** "NONE: none MAY come": there is none, or there is one elsewhere */
    private static void soonNone() {
        due(ofKind(10, 3), "soon(0)", NONE);
        due(ofKind(10, 3), "soon(1023)", NONE);
        // 0 and 1 go round where 2, who is FIRM, wears 1; else 2 is the REST.
        NotLikeThem x = Calls.town("people(3)", "set(2, 0, 2)", "tie(0, 1, 1)", "tie(1, 0, 1)", "set(1, 0, 1)", "tie(0, 2, 2)",
                "set(0, 1, -2)");
        dues(x, "soon(#)", 1, 2, 0, 1, NONE, NONE, NONE, NONE);
        dues(x, "mays(#)", 1, 1, 1, 1, 0, 0, 0, 0);
        dues(x, "may(#, 0)", 1, 1, 1, 1, 0, 0, 0, 0);
        due(x, "likely(4, 4, true)", 0);
        due(x, "likely(4, 4, false)", 1);
    }

    /** "the chance to be at a REST behind n draws (0 to 4)" */
    private static void likelyNoughtAndOne() {
        NotLikeThem x = leaning(5, 1);
        dues(x, "likely(0, #, true)", 0, 0, 0, 0, 0);
        dues(x, "likely(0, #, false)", 1, 1, 1, 1, 1);
        dues(x, "likely(1, #, true)", 0, 0, 0, 0, 1);
        dues(x, "likely(1, #, false)", 1, 1, 1, 1, 1);
        dues(x, "likely(31, #, true)", 1, 1, 1, 1, 1);
        dues(x, "likely(31, #, false)", 1, 1, 1, 1, 1);
        dues(ofKind(10, 3), "likely(0, #, true)", 0, 0, 0, 0, 0);
        dues(ofKind(10, 3), "likely(0, #, false)", 1, 1, 1, 1, 1);
    }

    /** "a FRACTION (above: upper, below: else) in least terms" */
    private static void likelyInLeastTerms() {
        // 0 leans to 1, the nine others flee it: a REST, 1, as soon as 0 is drawn first of ten.
        NotLikeThem x = ofKind(10, 1);
        x.set(0, 0, 0);
        x.set(0, 1, 1);
        for (int p = 1; p < 10; p++) x.tie(p, 0, 1);
        dues(x, "likely(0, #, true)", 0, 1, 1, 1, 1);
        dues(x, "likely(0, #, false)", 1, 10, 10, 5, 5);
        // Five others only: 1 of 6, then 5 of 6 by 1 of 5 more, which is 2 of 6.
        x = ofKind(6, 1);
        x.set(0, 0, 0);
        x.set(0, 1, 1);
        for (int p = 1; p < 6; p++) x.tie(p, 0, 1);
        dues(x, "likely(0, #, true)", 0, 1, 1, 1, 1);
        dues(x, "likely(0, #, false)", 1, 6, 6, 3, 3);
    }

    /** LIKELY is told as a long: here what is above and what is below are both beyond an int. */
    private static void likelyBeyondAnInt() {
        int[][] weights = {
            {0, 1, 0, 8, 0, 4, 0, 2, 0, 0}, {0, 0, 0, 4, 0, 4, 0, 0, 8, 0}, {0, 0, 0, 2, 0, 0, 0, 0, 0, 1},
            {0, 8, 0, 0, 8, 6, 2, 8, 0, 0}, {0, 0, 0, 4, 0, 0, 0, 0, 0, 0}, {0, 9, 4, 3, 9, 0, 7, 6, 0, 0},
            {0, 1, 3, 2, 0, 0, 0, 3, 0, 2}, {0, 5, 0, 9, 0, 0, 0, 0, 0, 7}, {4, 9, 5, 9, 1, 0, 0, 0, 0, 0},
            {0, 5, 0, 5, 0, 0, 0, 0, 3, 0},
        };
        int[] kinds = {0, 0, 0, 0, 1, 1, 0, 0, 0, 1};
        int[] leans = {7, 3, -2, -9, 4, 2, 7, 1, 9, 9};
        NotLikeThem x = new NotLikeThem();
        Plain plain = new Plain();
        x.people(10);
        plain.people(10);
        for (int p = 0; p < 10; p++) {
            x.set(p, 0, kinds[p]);
            plain.set(p, 0, kinds[p]);
            x.set(p, 1, leans[p]);
            plain.set(p, 1, leans[p]);
            for (int q = 0; q < 10; q++) {
                x.tie(p, q, weights[p][q]);
                plain.tie(p, q, weights[p][q]);
            }
        }
        due(x, "likely(536, 4, true)", 11899020893L);
        due(x, "likely(536, 4, false)", 48009024000L);
        check.due("the plain model, above", plain.likely(536, 4, true), 11899020893L);
        check.due("the plain model, below", plain.likely(536, 4, false), 48009024000L);
    }

    // ---- the picture

    private static void pictureOfNoWeekAndOne() {
        for (int n = 1; n <= 10; n++) {
            NotLikeThem x = leaning(n, 9);
            int last = n - 1;
            for (int weeks = 0; weeks < 2; weeks++) {
                due(x, "count(2)", weeks);
                due(x, "maybe(0)", 15);
                due(x, "maybe(" + last + ")", 15);
                due(x, "ways()", 1L << (2 * n));
                due(x, "week(0)", weeks + 1);
            }
            // From 0 to 0 by a SUM above 0: it FLEES or is FIRM.
            due(x, "maybe(" + last + ")", 6);
            due(x, "ways()", 1L << n);
        }
    }

    /** "behind each WEEK but the last, what it wears in the next WEEK" */
    private static void pictureCountsFirstAndLastStep() {
        // All see nothing and are as they were, but for one STEP of seven.
        for (int other = 0; other < 7; other++) {
            NotLikeThem x = new NotLikeThem();
            for (int week = 0; week < 8; week++) x.week(week <= other ? 0 : 15);
            due(x, "maybe(0)", 0);
            due(x, "ways()", 0);
        }
        NotLikeThem x = new NotLikeThem();
        for (int week = 0; week < 8; week++) x.week(15);
        due(x, "maybe(3)", 7);
        due(x, "ways()", 81);
        // What it would wear behind the last WEEK is not looked at: all change seven times.
        x.wipe();
        for (int week = 0; week < 8; week++) {
            x.week(week % 2 == 0 ? 0 : 15);
            due(x, "maybe(3)", week == 0 ? 15 : 8);
        }
        due(x, "ways()", 1);
    }

    private static void pictureFullThenWiped() {
        NotLikeThem x = new NotLikeThem();
        due(x, "wipe()", 0);
        for (int i = 1; i <= 8; i++) due(x, "week(" + (i % 2 == 0 ? 15 : 0) + ")", i);
        due(x, "week(15)", FULL);
        // The ninth has not taken the place of the eighth or the first.
        due(x, "maybe(0)", 8);
        due(x, "wipe()", 8);
        due(x, "wipe()", 0);
        due(x, "maybe(0)", 15);
        // WEEK 0 of the new PICTURE has no WEEK ahead of it.
        due(x, "week(0)", 1);
        due(x, "maybe(0)", 15);
        due(x, "week(0)", 2);
        due(x, "maybe(0)", 7);
        // To wipe leaves the TOWN as it is.
        due(x, "set(0, 0, 3)", 0);
        due(x, "set(0, 1, 4)", 0);
        due(x, "tie(0, 1, 9)", 0);
        due(x, "wipe()", 2);
        due(x, "about(0, 0)", 3);
        due(x, "about(0, 1)", 4);
        due(x, "sees(0, 1)", 9);
    }

    private static void pictureGoneWithThePeople() {
        NotLikeThem x = new NotLikeThem();
        for (int i = 0; i < 8; i++) x.week(i % 2 == 0 ? 0 : 15);
        due(x, "people(11)", -2);
        due(x, "count(2)", 8);
        due(x, "people(4)", 4);
        due(x, "count(2)", 0);
        due(x, "maybe(0)", 15);
        due(x, "wipe()", 0);
        due(x, "week(0)", 1);
    }

    private static void waysOneAndMost() {
        due(ofKind(10, 3), "ways()", 1048576);
        due(ofKind(1, 3), "ways()", 4);
        // Each goes 0, 1, 1 by a SUM above 0: each FOLLOWS.
        NotLikeThem x = leaning(10, 1);
        x.week(0);
        x.week(1023);
        due(x, "ways()", 1024);
        x.week(1023);
        due(x, "ways()", 1);
        // And the last goes back: no way at all.
        x.week(511);
        due(x, "maybe(9)", 0);
        due(x, "maybe(8)", 1);
        due(x, "ways()", 0);
    }

    /** "the least KIND each: how many are otherwise than they were" */
    private static void takeNobodyAndAll() {
        NotLikeThem x = ofKind(10, 3);
        due(x, "take()", 10);
        due(x, "count(3)", 10);
        due(x, "take()", 0);
        // All always change, by no SUM at all: all are TIRED.
        x.week(0);
        x.week(1023);
        due(x, "take()", 10);
        for (int p = 0; p < 10; p++) due(x, "about(" + p + ", 0)", 3);
        due(x, "take()", 0);
        // Neither FOLLOWS nor FLEES: as it was by SUMS above 0 and below, by turns.
        x = Calls.town("people(2)", "tie(0, 1, 1)", "set(1, 0, 3)", "week(0)", "week(2)", "week(0)");
        due(x, "maybe(0)", 4);
        due(x, "take()", 1);
        due(x, "about(0, 0)", 2);
        due(x, "about(1, 0)", 3);
        due(x, "count(2)", 3);
    }

    /** "STATE: someone MAY be nothing": be it the last, and then nobody is taken */
    private static void takeRefusedByTheLast() {
        for (int who : new int[] {0, 5, 9}) {
            NotLikeThem x = ofKind(10, 3);
            x.week(0);
            x.week(1 << who);
            x.week(1 << who);
            due(x, "maybe(" + who + ")", 0);
            due(x, "take()", STATE);
            for (int p = 0; p < 10; p++) due(x, "about(" + p + ", 0)", 3);
            due(x, "count(2)", 3);
        }
    }

    // ---- the shop

    private static void askedNothingAndMost() {
        NotLikeThem x = ofKind(10, 2);
        due(x, "asked(0, 0, 50)", 0);
        due(x, "asked(1023, 1, 50)", 0);
        x = ofKind(10, 3);
        due(x, "asked(0, 0, 1)", 10);
        due(x, "asked(1023, 0, 1)", 0);
        due(x, "asked(0, 0, 49)", 250);
        due(x, "asked(1023, 0, 49)", 240);
        due(x, "asked(0, 1, 50)", 250);
        due(x, "asked(1023, 1, 50)", 250);
        x = leaning(10, 1);
        due(x, "asked(0, 1, 1)", 10);
        due(x, "asked(0, 1, 50)", 10);
        due(x, "asked(1023, 0, 50)", 0);
    }

    /** "sells .. what is ASKED for, as far as it has" */
    private static void gainOfNoStockAndTooMuch() {
        NotLikeThem x = ofKind(10, 2);
        due(x, "gain(0, 50, 0, 99, 99)", 0);
        due(x, "gain(0, 50, 500, 99, 99)", -1024 * 500 * 99);
        due(x, "gain(1, 50, 500, 99, 1)", -1024 * 500 * 99);
        x = ofKind(10, 3);
        due(x, "gain(0, 50, 0, 1, 99)", 0);
        due(x, "gain(0, 50, 249, 1, 99)", 1024 * 249 * 98);
        due(x, "gain(0, 50, 250, 1, 99)", 1024 * 250 * 98);
        due(x, "gain(0, 50, 251, 1, 99)", 1024 * (250 * 99 - 251));
        due(x, "gain(0, 50, 500, 1, 99)", 1024 * (250 * 99 - 500));
        // In one STEP as many as wear 0: 5 from a DRESS on the whole, 10 at most.
        due(x, "gain(0, 1, 10, 1, 2)", 1024 * (5 * 2 - 10));
        due(x, "gain(0, 1, 500, 1, 2)", 1024 * (5 * 2 - 500));
        // By 9 there is one too few from one DRESS alone, 0.
        due(x, "gain(0, 1, 9, 1, 2)", 1024 * 5 * 2 - 2 - 1024 * 9);
    }

    /** "of like ones the least" */
    private static void orderOfLikeOnesTheLeast() {
        // One is ASKED for from one DRESS of two: 1 for 2 gains as much as nothing.
        NotLikeThem x = Calls.town("people(1)", "set(0, 1, 1)");
        due(x, "gain(0, 1, 0, 1, 2)", 0);
        due(x, "gain(0, 1, 1, 1, 2)", 0);
        due(x, "order(0, 1, 1, 2)", 0);
        due(x, "order(0, 1, 1, 3)", 1);
        // Two of whom each asks from one DRESS of two: 2 from one of four, 1 from two of four.
        x = leaning(2, 1);
        due(x, "gain(0, 50, 1, 25, 99)", 3 * 99 - 100);
        due(x, "gain(0, 50, 2, 24, 96)", 4 * 96 - 8 * 24);
        due(x, "gain(0, 50, 1, 24, 96)", 3 * 96 - 4 * 24);
        due(x, "order(0, 50, 24, 96)", 1);
        due(x, "order(0, 50, 24, 97)", 2);
        due(x, "order(0, 50, 72, 96)", 0);
        due(x, "order(0, 50, 71, 96)", 1);
    }

    private static void orderNothingAndMost() {
        NotLikeThem x = ofKind(10, 2);
        due(x, "order(0, 50, 1, 99)", 0);
        x = ofKind(10, 3);
        due(x, "order(0, 50, 1, 99)", 250);
        due(x, "order(1, 50, 98, 99)", 250);
        due(x, "order(1, 50, 99, 99)", 0);
        due(x, "order(1, 50, 99, 98)", 0);
        // In 49 STEPS 240 and one more for each who wears 0: the last but one of 250 is ASKED for from
        // 11 DRESSES of 1024 (11 * 99 is more than 1024), the last from one; the second from 1013.
        due(x, "order(0, 49, 1, 99)", 249);
        due(x, "order(0, 49, 98, 99)", 241);
    }

    private static void countNoughtAndAll() {
        dues(ofKind(10, 0), "count(#)", 10, 0, 0, 10, 0);
        dues(ofKind(10, 1), "count(#)", 10, 0, 0, 0, 10);
        dues(ofKind(10, 2), "count(#)", 10, 0, 0, 0, 0);
        dues(ofKind(10, 3), "count(#)", 10, 0, 0, 0, 0);
        dues(ofKind(1, 0), "count(#)", 1, 0, 0, 1, 0);
        NotLikeThem x = ofKind(10, 0);
        allTies(x);
        for (int i = 0; i < 8; i++) x.week(i);
        dues(x, "count(#)", 10, 90, 8, 10, 0);
    }

    // ---- all of it

    private static void askedAgainTheAnswerIsTheSame() {
        NotLikeThem x = Calls.town("people(3)", "tie(0, 1, 2)", "tie(1, 2, 1)", "tie(2, 0, 3)", "set(1, 0, 1)", "set(0, 1, 1)", "week(5)");
        String first = Probe.of(x);
        check.isTrue("all answers are the same again", first.equals(Probe.of(x)));
        // Here each call goes through all DRESSES and all LONE CHANGES.
        x = ofKind(10, 3);
        for (int i = 0; i < 3; i++) {
            due(x, "witness()", 0);
            due(x, "longest(0)", 2);
            due(x, "longest(1)", 2);
            due(x, "soon(0)", NONE);
            due(x, "likely(0, 4, true)", 0);
            due(x, "order(0, 50, 1, 2)", 250);
        }
        due(x, "settled()", 0);
    }

    /** "An object is used for at most 512 calls after it has been made": the last is one of them. */
    private static void theLastOf512Calls() {
        NotLikeThem x = new NotLikeThem();
        for (int i = 0; i < 128; i++) {
            int were = i == 0 ? 4 : 10;
            due(x, "people(10)", were);
            due(x, "set(9, 1, 9)", 0);
            due(x, "rings(0)", 512);
            due(x, i == 127 ? "rest(511)" : "rest(512)", i == 127 ? 1023 : UNKNOWN);
        }
    }
}
