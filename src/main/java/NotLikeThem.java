/**
 * People who wear what those whom they see wear, or on no account that.
 *
 * <p>This class looks at what it is asked, refuses what is not as told, and hands the rest to the
 * classes inside it. All rows are made once, with the object: no call makes anything.
 */
public final class NotLikeThem {
    public static final int UNKNOWN = -1, OUTSIDE = -2, STATE = -3, FULL = -4, NONE = -9;

    private static final int MOST_PEOPLE = 10;
    private static final int MOST_DRESSES = 1 << MOST_PEOPLE;
    private static final int PEOPLE_AT_FIRST = 4;
    private static final int MOST_WEIGHT = 9;
    private static final int MOST_LEAN = 9;
    private static final int MOST_AFTER = 10000;
    private static final int MOST_DRAWS = 4;
    private static final int MOST_WEEKS = 8;
    private static final int MOST_SHOP_STEPS = 50;
    private static final int MOST_STOCK = 500;
    private static final int MOST_MONEY = 99;
    private static final int HEAT_ZERO = 10000;

    private static final int FOLLOWS = 0, FLEES = 1, FIRM = 2, TIRED = 3;
    private static final int KINDS = 4;
    private static final int AT_ONCE = 0, IN_ORDER = 1;

    private final Town town;
    private final Heat warmth;
    private final Rests calmDresses;
    private final Walk walk;
    private final Rounds rounds;
    private final Chance chance;
    private final Picture picture;
    private final Shop shop;

    public NotLikeThem() {
        Spare spare = new Spare();
        town = new Town();
        warmth = new Heat(town);
        calmDresses = new Rests(town);
        walk = new Walk(town);
        rounds = new Rounds(town, spare);
        chance = new Chance(town, spare);
        picture = new Picture(town);
        shop = new Shop(town, walk, spare);
    }

    // ---- the town

    public int people(int n) {
        if (!within(n, 1, MOST_PEOPLE)) return OUTSIDE;
        int before = town.size();
        town.startAnew(n);
        picture.clear();
        return before;
    }

    public int tie(int person, int other, int weight) {
        if (!town.has(person) || !town.has(other)) return UNKNOWN;
        if (!within(weight, 0, MOST_WEIGHT)) return OUTSIDE;
        if (person == other) return STATE;
        int before = town.weight(person, other);
        town.setWeight(person, other, weight);
        return before;
    }

    public int set(int person, int what, int v) {
        if (!town.has(person)) return UNKNOWN;
        if (what == 0 && within(v, 0, KINDS - 1)) {
            int before = town.kind(person);
            town.setKind(person, v);
            return before;
        }
        if (what == 1 && within(v, -MOST_LEAN, MOST_LEAN)) {
            int before = town.lean(person);
            town.setLean(person, v);
            return before;
        }
        return OUTSIDE;
    }

    public int about(int person, int what) {
        if (!town.has(person)) return UNKNOWN;
        switch (what) {
            case 0: return town.kind(person);
            case 1: return town.lean(person);
            case 2: return town.seenBy(person);
            case 3: return town.seeing(person);
            default: return OUTSIDE;
        }
    }

    public int sees(int person, int other) {
        if (!town.has(person) || !town.has(other)) return UNKNOWN;
        if (person == other) return STATE;
        return town.weight(person, other);
    }

    // ---- steps

    public int sum(int person, int dress) {
        if (!town.has(person)) return UNKNOWN;
        if (!town.isDress(dress)) return OUTSIDE;
        return town.sumOf(person, dress);
    }

    public int calm(int dress) {
        if (!town.isDress(dress)) return OUTSIDE;
        return (town.dresses() - 1) & ~town.restlessIn(dress);
    }

    public int after(int dress, int way, int steps) {
        if (!town.isDress(dress) || !isWay(way) || !within(steps, 0, MOST_AFTER)) return OUTSIDE;
        return walk.behind(dress, way, steps);
    }

    public int run(int dress, int way, int what) {
        if (!town.isDress(dress) || !isWay(way)) return OUTSIDE;
        switch (what) {
            case 0: return walk.stepsToRing(dress, way);
            case 1: return walk.entered(dress, way);
            case 2: return walk.lengthOf(way, walk.entered(dress, way));
            default: return OUTSIDE;
        }
    }

    public int rings(int way) {
        if (!isWay(way)) return OUTSIDE;
        return walk.ringCount(way);
    }

    public int ring(int way, int ring, int what) {
        if (!isWay(way)) return OUTSIDE;
        int least = walk.leastOfRing(way, ring);
        if (least < 0) return UNKNOWN;
        switch (what) {
            case 0: return least;
            case 1: return walk.lengthOf(way, least);
            case 2: return walk.drawnTo(way, least);
            case 3: return walk.farthestFrom(way, least);
            default: return OUTSIDE;
        }
    }

    public int longest(int way) {
        if (!isWay(way)) return OUTSIDE;
        return walk.greatestLength(way);
    }

    // ---- rests

    public int rests() {
        return calmDresses.howMany();
    }

    public int rest(int i) {
        int dress = calmDresses.dressOf(i);
        return dress < 0 ? UNKNOWN : dress;
    }

    public int even() {
        return warmth.isDefined() ? 1 : 0;
    }

    public int heat(int dress) {
        if (!town.isDress(dress)) return OUTSIDE;
        if (!warmth.isDefined()) return STATE;
        return HEAT_ZERO + warmth.of(dress);
    }

    public int lone(int person, int dress) {
        if (!town.has(person)) return UNKNOWN;
        if (!town.isDress(dress)) return OUTSIDE;
        if (town.isCalm(person, dress)) return STATE;
        return dress ^ (1 << person);
    }

    public int settled() {
        return rounds.leastDress() < 0 ? 1 : 0;
    }

    public int witness() {
        int least = rounds.leastDress();
        return least < 0 ? NONE : least;
    }

    public int turn() {
        if (town.countKind(TIRED) > 0) return NONE;
        return Integer.bitCount(calmDresses.fewestRestless());
    }

    public int turned() {
        if (town.countKind(TIRED) > 0) return NONE;
        return calmDresses.fewestRestless();
    }

    public int hold(boolean dress) {
        int least = calmDresses.leastOfFewestRestless();
        return dress ? least : Integer.bitCount(town.restlessIn(least));
    }

    // ---- by chance

    public int may(int dress, int rest) {
        if (!town.isDress(dress)) return OUTSIDE;
        int end = calmDresses.dressOf(rest);
        if (end < 0) return UNKNOWN;
        return chance.canReach(dress, end) ? 1 : 0;
    }

    public int mays(int dress) {
        if (!town.isDress(dress)) return OUTSIDE;
        return chance.restsFrom(dress);
    }

    public int soon(int dress) {
        if (!town.isDress(dress)) return OUTSIDE;
        int draws = chance.fewestDraws(dress);
        return draws < 0 ? NONE : draws;
    }

    public long likely(int dress, int draws, boolean upper) {
        if (!town.isDress(dress) || !within(draws, 0, MOST_DRAWS)) return OUTSIDE;
        return chance.fraction(dress, draws, upper);
    }

    // ---- the picture

    public int week(int dress) {
        if (!town.isDress(dress)) return OUTSIDE;
        if (picture.isFull()) return FULL;
        picture.add(dress);
        return picture.size();
    }

    public int wipe() {
        int before = picture.size();
        picture.clear();
        return before;
    }

    public int maybe(int person) {
        if (!town.has(person)) return UNKNOWN;
        return picture.kindsOf(person);
    }

    public long ways() {
        return picture.explanations();
    }

    public int take() {
        if (picture.explanations() == 0) return STATE;
        return picture.settleKinds();
    }

    // ---- the shop

    public int asked(int dress, int way, int steps) {
        if (!town.isDress(dress) || !isWay(way) || !isShopRun(steps)) return OUTSIDE;
        return shop.askedFrom(dress, way, steps);
    }

    public int gain(int way, int steps, int s, int cost, int price) {
        if (!isWay(way) || !isShopRun(steps) || !within(s, 0, MOST_STOCK)) return OUTSIDE;
        if (!isMoney(cost) || !isMoney(price)) return OUTSIDE;
        return shop.gainBy(way, steps, s, cost, price);
    }

    public int order(int way, int steps, int cost, int price) {
        if (!isWay(way) || !isShopRun(steps)) return OUTSIDE;
        if (!isMoney(cost) || !isMoney(price)) return OUTSIDE;
        return shop.bestStock(way, steps, cost, price);
    }

    public int count(int what) {
        switch (what) {
            case 0: return town.size();
            case 1: return town.ties();
            case 2: return picture.size();
            case 3: return town.countKind(FOLLOWS);
            case 4: return town.countKind(FLEES);
            default: return OUTSIDE;
        }
    }

    private static boolean within(int number, int least, int most) {
        return number >= least && number <= most;
    }

    private static boolean isWay(int way) {
        return way == AT_ONCE || way == IN_ORDER;
    }

    private static boolean isShopRun(int steps) {
        return within(steps, 1, MOST_SHOP_STEPS);
    }

    private static boolean isMoney(int amount) {
        return within(amount, 1, MOST_MONEY);
    }

    /**
     * Rows that a call may write on and that keep nothing between calls. Rounds, Chance and Shop
     * share them, since none of these uses another; it keeps an object small.
     */
    static final class Spare {
        final int[] a = new int[MOST_DRESSES];
        final int[] b = new int[MOST_DRESSES];
        final int[] c = new int[MOST_DRESSES];
        final int[] d = new int[MOST_DRESSES];
        final int[] e = new int[MOST_DRESSES];
    }

    /** The PEOPLE, their TIES, KINDS and LEANS, and who is not CALM in which DRESS. */
    static final class Town {
        private final int[][] weights = new int[MOST_PEOPLE][MOST_PEOPLE];
        private final int[] kinds = new int[MOST_PEOPLE];
        private final int[] leans = new int[MOST_PEOPLE];
        private final int[] sums = new int[MOST_DRESSES];
        private final int[] restless = new int[MOST_DRESSES];
        private int size = PEOPLE_AT_FIRST;
        // The PEOPLE whose bits in restless are out of date: a change of one leaves the others' be.
        private int stale = MOST_DRESSES - 1;
        private int version = 0;

        int size() {
            return size;
        }

        int dresses() {
            return 1 << size;
        }

        /** Another number behind each change, so that others know when their rows are out of date. */
        int version() {
            return version;
        }

        boolean has(int person) {
            return person >= 0 && person < size;
        }

        boolean isDress(int dress) {
            return dress >= 0 && dress < dresses();
        }

        void startAnew(int n) {
            size = n;
            for (int person = 0; person < MOST_PEOPLE; person++) {
                for (int other = 0; other < MOST_PEOPLE; other++) weights[person][other] = 0;
                kinds[person] = FOLLOWS;
                leans[person] = 0;
                changed(person);
            }
            // A smaller TOWN must not find the bits of PEOPLE that are no more.
            for (int dress = 0; dress < MOST_DRESSES; dress++) restless[dress] = 0;
        }

        int weight(int person, int other) {
            return weights[person][other];
        }

        void setWeight(int person, int other, int weight) {
            weights[person][other] = weight;
            changed(person);
        }

        int kind(int person) {
            return kinds[person];
        }

        void setKind(int person, int kind) {
            kinds[person] = kind;
            changed(person);
        }

        int lean(int person) {
            return leans[person];
        }

        void setLean(int person, int lean) {
            leans[person] = lean;
            changed(person);
        }

        private void changed(int person) {
            stale |= 1 << person;
            version++;
        }

        /** How many others a PERSON sees. */
        int seenBy(int person) {
            int seen = 0;
            for (int other = 0; other < size; other++) {
                if (weights[person][other] > 0) seen++;
            }
            return seen;
        }

        /** How many others see a PERSON. */
        int seeing(int person) {
            int seeing = 0;
            for (int other = 0; other < size; other++) {
                if (weights[other][person] > 0) seeing++;
            }
            return seeing;
        }

        int ties() {
            int ties = 0;
            for (int person = 0; person < size; person++) ties += seenBy(person);
            return ties;
        }

        int countKind(int kind) {
            int found = 0;
            for (int person = 0; person < size; person++) {
                if (kinds[person] == kind) found++;
            }
            return found;
        }

        int sumOf(int person, int dress) {
            int sum = leans[person];
            for (int other = 0; other < size; other++) {
                int weight = weights[person][other];
                sum += worn(dress, other) == 1 ? weight : -weight;
            }
            return sum;
        }

        static int worn(int dress, int person) {
            return (dress >> person) & 1;
        }

        /** What one of a KIND wears NEXT, by its SUM and what it wears. */
        static int nextOf(int kind, int sum, int worn) {
            if (kind == TIRED) return 1 - worn;
            if (kind == FIRM || sum == 0) return worn;
            return (sum > 0) == (kind == FOLLOWS) ? 1 : 0;
        }

        boolean isCalm(int person, int dress) {
            int worn = worn(dress, person);
            return nextOf(kinds[person], sumOf(person, dress), worn) == worn;
        }

        /** Those who are not CALM in a DRESS, as bits. */
        int restlessIn(int dress) {
            int bits = 0;
            for (int person = 0; person < size; person++) {
                if (!isCalm(person, dress)) bits |= 1 << person;
            }
            return bits;
        }

        /** For each DRESS those who are not CALM in it, as bits. */
        int[] restless() {
            for (int person = 0; person < size; person++) {
                if (worn(stale, person) == 1) renew(person);
            }
            stale = 0;
            return restless;
        }

        private void renew(int person) {
            fillSums(person);
            int kind = kinds[person];
            int bit = 1 << person;
            int dresses = dresses();
            for (int dress = 0; dress < dresses; dress++) {
                int worn = worn(dress, person);
                boolean calm = nextOf(kind, sums[dress], worn) == worn;
                restless[dress] = calm ? restless[dress] & ~bit : restless[dress] | bit;
            }
        }

        /** The SUM of a PERSON in each DRESS: with each other one the row grows to twice as long. */
        private void fillSums(int person) {
            int[] row = weights[person];
            int sum = leans[person];
            for (int other = 0; other < size; other++) sum -= row[other];
            sums[0] = sum;
            for (int other = 0; other < size; other++) {
                int half = 1 << other;
                int more = 2 * row[other];
                for (int dress = 0; dress < half; dress++) sums[dress + half] = sums[dress] + more;
            }
        }
    }

    /** Whether the TOWN is EVEN, and the HEAT of a DRESS if it is. */
    static final class Heat {
        private final Town town;

        Heat(Town town) {
            this.town = town;
        }

        boolean isDefined() {
            if (town.countKind(TIRED) > 0) return false;
            for (int person = 0; person < town.size(); person++) {
                for (int other = 0; other < person; other++) {
                    if (!isEvenPair(person, other)) return false;
                }
            }
            return true;
        }

        private boolean isEvenPair(int person, int other) {
            int weight = town.weight(person, other);
            if (weight != town.weight(other, person)) return false;
            if (weight == 0) return true;
            int kind = town.kind(person), otherKind = town.kind(other);
            boolean atOdds = kind == FLEES && otherKind == FOLLOWS || kind == FOLLOWS && otherKind == FLEES;
            return !atOdds;
        }

        int of(int dress) {
            int heat = 0;
            for (int person = 0; person < town.size(); person++) {
                heat += ofLean(person, dress);
                for (int other = 0; other < person; other++) heat += ofPair(person, other, dress);
            }
            return heat;
        }

        private int ofPair(int person, int other, int dress) {
            int kind = town.kind(person), otherKind = town.kind(other);
            if (kind == FIRM && otherKind == FIRM) return 0;
            boolean alike = Town.worn(dress, person) == Town.worn(dress, other);
            boolean flees = kind == FLEES || otherKind == FLEES;
            return alike != flees ? town.weight(person, other) : -town.weight(person, other);
        }

        private int ofLean(int person, int dress) {
            int kind = town.kind(person);
            if (kind != FOLLOWS && kind != FLEES) return 0;
            boolean wearsOne = Town.worn(dress, person) == 1;
            return wearsOne == (kind == FOLLOWS) ? town.lean(person) : -town.lean(person);
        }
    }

    /** The RESTS in order, and the DRESSES that lack the least to be one. */
    static final class Rests {
        private final Town town;

        Rests(Town town) {
            this.town = town;
        }

        int howMany() {
            int[] restless = town.restless();
            int dresses = town.dresses();
            int found = 0;
            for (int dress = 0; dress < dresses; dress++) {
                if (restless[dress] == 0) found++;
            }
            return found;
        }

        /** The DRESS of a REST; -1: there is no such REST. */
        int dressOf(int rest) {
            int[] restless = town.restless();
            int dresses = town.dresses();
            int ahead = rest;
            for (int dress = 0; dress < dresses && ahead >= 0; dress++) {
                if (restless[dress] == 0) {
                    if (ahead == 0) return dress;
                    ahead--;
                }
            }
            return -1;
        }

        /**
         * The fewest who are not CALM in a DRESS, of as many the least number as bits. Where none is
         * TIRED these are those TO TURN: one that is not CALM is, if it does the other thing, and one
         * that is CALM may stay as it is.
         */
        int fewestRestless() {
            int[] restless = town.restless();
            int dresses = town.dresses();
            int fewest = restless[0];
            for (int dress = 1; dress < dresses; dress++) {
                int more = Integer.bitCount(restless[dress]) - Integer.bitCount(fewest);
                if (more < 0 || more == 0 && restless[dress] < fewest) fewest = restless[dress];
            }
            return fewest;
        }

        /** The least DRESS in which the fewest are not CALM. */
        int leastOfFewestRestless() {
            int[] restless = town.restless();
            int dresses = town.dresses();
            int least = 0;
            for (int dress = 1; dress < dresses; dress++) {
                if (Integer.bitCount(restless[dress]) < Integer.bitCount(restless[least])) least = dress;
            }
            return least;
        }
    }

    /** STEPS and RINGS, kept for the WAY that was asked for last, till the TOWN changes. */
    static final class Walk {
        private final Town town;
        private final int[] step = new int[MOST_DRESSES];
        // For each DRESS: the least DRESS of the RING that DRAWS it, and the STEPS till it is there.
        private final int[] ringOf = new int[MOST_DRESSES];
        private final int[] tail = new int[MOST_DRESSES];
        private final int[] queue = new int[MOST_DRESSES];
        private int stepWay = AT_ONCE;
        private int stepVersion = -1;
        private int ringWay = AT_ONCE;
        private int ringVersion = -1;

        Walk(Town town) {
            this.town = town;
        }

        /** For each DRESS the one behind a STEP. */
        int[] stepsBy(int way) {
            if (stepWay != way || stepVersion != town.version()) {
                int[] restless = town.restless();
                int dresses = town.dresses();
                for (int dress = 0; dress < dresses; dress++) {
                    step[dress] = way == AT_ONCE ? dress ^ restless[dress] : oneByOne(restless, dress);
                }
                stepWay = way;
                stepVersion = town.version();
            }
            return step;
        }

        private int oneByOne(int[] restless, int dress) {
            int size = town.size();
            int now = dress;
            for (int person = 0; person < size; person++) now ^= restless[now] & (1 << person);
            return now;
        }

        int behind(int dress, int way, int steps) {
            stepsBy(way);
            int now = dress;
            for (int i = 0; i < steps; i++) now = step[now];
            return now;
        }

        int stepsToRing(int dress, int way) {
            findRings(way);
            return tail[dress];
        }

        int entered(int dress, int way) {
            findRings(way);
            int now = dress;
            for (int i = 0; i < tail[dress]; i++) now = step[now];
            return now;
        }

        int ringCount(int way) {
            findRings(way);
            int dresses = town.dresses();
            int rings = 0;
            for (int dress = 0; dress < dresses; dress++) {
                if (ringOf[dress] == dress) rings++;
            }
            return rings;
        }

        /** The least DRESS of a RING; -1: there is no such RING. */
        int leastOfRing(int way, int ring) {
            findRings(way);
            int dresses = town.dresses();
            int ahead = ring;
            for (int dress = 0; dress < dresses && ahead >= 0; dress++) {
                if (ringOf[dress] == dress) {
                    if (ahead == 0) return dress;
                    ahead--;
                }
            }
            return -1;
        }

        /** LONG of the RING on which a DRESS is. */
        int lengthOf(int way, int dress) {
            stepsBy(way);
            int length = 1;
            int now = step[dress];
            while (now != dress && length < MOST_DRESSES) {
                now = step[now];
                length++;
            }
            return length;
        }

        int drawnTo(int way, int least) {
            findRings(way);
            int dresses = town.dresses();
            int drawn = 0;
            for (int dress = 0; dress < dresses; dress++) {
                if (ringOf[dress] == least) drawn++;
            }
            return drawn;
        }

        int farthestFrom(int way, int least) {
            findRings(way);
            int dresses = town.dresses();
            int farthest = 0;
            for (int dress = 0; dress < dresses; dress++) {
                if (ringOf[dress] == least) farthest = Math.max(farthest, tail[dress]);
            }
            return farthest;
        }

        int greatestLength(int way) {
            findRings(way);
            int dresses = town.dresses();
            int greatest = 0;
            for (int dress = 0; dress < dresses; dress++) {
                if (ringOf[dress] == dress) greatest = Math.max(greatest, lengthOf(way, dress));
            }
            return greatest;
        }

        /** Fills ringOf and tail: what is on no RING is taken off from its outer ends inwards. */
        private void findRings(int way) {
            stepsBy(way);
            if (ringWay == way && ringVersion == town.version()) return;
            int dresses = town.dresses();
            int off = takeOff(dresses);
            for (int dress = 0; dress < dresses; dress++) {
                // On RINGS alone something still leads to a DRESS, till goRound has been there.
                if (tail[dress] > 0) goRound(dress, dresses);
            }
            for (int i = off - 1; i >= 0; i--) {
                int dress = queue[i];
                ringOf[dress] = ringOf[step[dress]];
                tail[dress] = tail[step[dress]] + 1;
            }
            ringWay = way;
            ringVersion = town.version();
        }

        /** Queues all that is on no RING, each ahead of what it leads to: how many there are. */
        private int takeOff(int dresses) {
            // Till all are taken off, tail counts the DRESSES left that lead to one.
            for (int dress = 0; dress < dresses; dress++) tail[dress] = 0;
            for (int dress = 0; dress < dresses; dress++) tail[step[dress]]++;
            int off = 0;
            for (int dress = 0; dress < dresses; dress++) {
                if (tail[dress] == 0) queue[off++] = dress;
            }
            for (int i = 0; i < off && i < dresses; i++) {
                int then = step[queue[i]];
                tail[then]--;
                if (tail[then] == 0) queue[off++] = then;
            }
            return off;
        }

        private void goRound(int least, int dresses) {
            int now = least;
            for (int i = 0; i < dresses && tail[now] > 0; i++) {
                ringOf[now] = least;
                tail[now] = 0;
                now = step[now];
            }
        }
    }

    /**
     * The least DRESS that LONE CHANGES bring back to itself. A search in depth, without recursion,
     * that parts the DRESSES into those that lead to one another (Tarjan's parts).
     */
    static final class Rounds {
        private static final int CLOSED = MOST_DRESSES + 1;

        private final Town town;
        // When a DRESS was found, from 1 on; 0: not yet.
        private final int[] found;
        // The earliest found one of its part that is known to be led to; CLOSED: its part is known.
        private final int[] low;
        private final int[] path;
        private final int[] open;
        // Who of those that are not CALM has not been followed yet, as bits.
        private final int[] left;
        private int clock;
        private int pathSize;
        private int openSize;

        Rounds(Town town, Spare spare) {
            this.town = town;
            found = spare.a;
            low = spare.b;
            path = spare.c;
            open = spare.d;
            left = spare.e;
        }

        /** -1: there is none, and the TOWN is SETTLED. */
        int leastDress() {
            int[] restless = town.restless();
            int dresses = town.dresses();
            for (int dress = 0; dress < dresses; dress++) {
                found[dress] = 0;
                left[dress] = restless[dress];
            }
            clock = 0;
            openSize = 0;
            int least = dresses;
            for (int dress = 0; dress < least; dress++) {
                if (found[dress] == 0) least = Math.min(least, searchFrom(dress, dresses));
            }
            return least < dresses ? least : -1;
        }

        /** The least DRESS in parts of two or more that are found from a DRESS; dresses: none. */
        private int searchFrom(int start, int dresses) {
            // Each turn follows one change or goes back one DRESS, and none twice.
            int mostTurns = MOST_DRESSES * (MOST_PEOPLE + 1);
            int least = dresses;
            pathSize = 0;
            enter(start);
            for (int turn = 0; turn < mostTurns && pathSize > 0; turn++) {
                int dress = path[pathSize - 1];
                if (left[dress] != 0) {
                    followOne(dress);
                } else {
                    least = Math.min(least, goBack(dress, dresses));
                }
            }
            return least;
        }

        private void enter(int dress) {
            clock++;
            found[dress] = clock;
            low[dress] = clock;
            path[pathSize++] = dress;
            open[openSize++] = dress;
        }

        private void followOne(int dress) {
            int bit = left[dress] & -left[dress];
            left[dress] ^= bit;
            int then = dress ^ bit;
            if (found[then] == 0) {
                enter(then);
            } else if (low[then] != CLOSED) {
                low[dress] = Math.min(low[dress], found[then]);
            }
        }

        /** Leaves a DRESS; if that ends its part of two or more, the least DRESS of it; else none. */
        private int goBack(int dress, int none) {
            pathSize--;
            if (low[dress] == found[dress]) return close(dress, none);
            // A part that has not ended began earlier on the path.
            if (pathSize > 0) {
                int from = path[pathSize - 1];
                low[from] = Math.min(low[from], low[dress]);
            }
            return none;
        }

        private int close(int first, int none) {
            int least = first;
            int size = 0;
            int last = -1;
            while (openSize > 0 && last != first) {
                last = open[--openSize];
                low[last] = CLOSED;
                least = Math.min(least, last);
                size++;
            }
            return size > 1 ? least : none;
        }
    }

    /** Draws BY CHANCE: which RESTS MAY come, how SOON, how LIKELY. */
    static final class Chance {
        // Each draw is among 1 to 10, and all of these divide it: chances are whole numbers by it.
        private static final int SHARES = 2520;
        private static final int MOST_DIVISIONS = 200;

        private final Town town;
        private final int[] draws;
        private final int[] queue;
        private final long[] now = new long[MOST_DRESSES];
        private final long[] then = new long[MOST_DRESSES];

        Chance(Town town, Spare spare) {
            this.town = town;
            draws = spare.a;
            queue = spare.b;
        }

        boolean canReach(int start, int end) {
            search(start, town.restless());
            return draws[end] >= 0;
        }

        int restsFrom(int start) {
            int[] restless = town.restless();
            int reached = search(start, restless);
            int rests = 0;
            for (int i = 0; i < reached; i++) {
                if (restless[queue[i]] == 0) rests++;
            }
            return rests;
        }

        /** The fewest draws to a REST; -1: none MAY come. */
        int fewestDraws(int start) {
            int[] restless = town.restless();
            int reached = search(start, restless);
            for (int i = 0; i < reached; i++) {
                if (restless[queue[i]] == 0) return draws[queue[i]];
            }
            return -1;
        }

        /** Queues what MAY come from a DRESS, by fewest draws, and tells these: how many there are. */
        private int search(int start, int[] restless) {
            int dresses = town.dresses();
            for (int dress = 0; dress < dresses; dress++) draws[dress] = -1;
            draws[start] = 0;
            queue[0] = start;
            int reached = 1;
            for (int i = 0; i < reached && i < dresses; i++) {
                int dress = queue[i];
                for (int person = 0; person < town.size(); person++) {
                    int drawn = restless[dress] & (1 << person);
                    int next = dress ^ drawn;
                    if (drawn != 0 && draws[next] < 0) {
                        draws[next] = draws[dress] + 1;
                        queue[reached++] = next;
                    }
                }
            }
            return reached;
        }

        /** LIKELY in least terms: what is above or what is below. */
        long fraction(int start, int drawCount, boolean upper) {
            int[] restless = town.restless();
            int dresses = town.dresses();
            for (int dress = 0; dress < dresses; dress++) now[dress] = 0;
            now[start] = 1;
            long all = 1;
            for (int i = 0; i < drawCount; i++) {
                drawOnce(restless, dresses);
                all *= SHARES;
            }
            long atRest = 0;
            for (int dress = 0; dress < dresses; dress++) {
                if (restless[dress] == 0) atRest += now[dress];
            }
            long common = commonDivisor(all, atRest);
            if (common <= 0) return 0;
            return upper ? atRest / common : all / common;
        }

        private void drawOnce(int[] restless, int dresses) {
            for (int dress = 0; dress < dresses; dress++) then[dress] = 0;
            for (int dress = 0; dress < dresses; dress++) {
                if (now[dress] > 0) handOn(dress, restless[dress]);
            }
            for (int dress = 0; dress < dresses; dress++) now[dress] = then[dress];
        }

        private void handOn(int dress, int restless) {
            int drawable = Integer.bitCount(restless);
            if (drawable == 0) {
                then[dress] += now[dress] * SHARES;
                return;
            }
            long share = now[dress] * (SHARES / drawable);
            for (int person = 0; person < town.size(); person++) {
                int drawn = restless & (1 << person);
                if (drawn != 0) then[dress ^ drawn] += share;
            }
        }

        private static long commonDivisor(long first, long second) {
            long a = first;
            long b = second;
            for (int i = 0; i < MOST_DIVISIONS && b != 0; i++) {
                long over = a % b;
                a = b;
                b = over;
            }
            return a;
        }
    }

    /** DRESSES of some WEEKS, and what KINDS explain them. */
    static final class Picture {
        private final Town town;
        private final int[] weeks = new int[MOST_WEEKS];
        private int size = 0;

        Picture(Town town) {
            this.town = town;
        }

        int size() {
            return size;
        }

        boolean isFull() {
            return size >= MOST_WEEKS;
        }

        void add(int dress) {
            if (isFull()) return;
            weeks[size] = dress;
            size++;
        }

        void clear() {
            size = 0;
        }

        /** The KINDS that a PERSON MAY be, as bits. */
        int kindsOf(int person) {
            int kinds = (1 << KINDS) - 1;
            for (int i = 0; i + 1 < size; i++) {
                int sum = town.sumOf(person, weeks[i]);
                int worn = Town.worn(weeks[i], person);
                int then = Town.worn(weeks[i + 1], person);
                for (int kind = 0; kind < KINDS; kind++) {
                    if (Town.nextOf(kind, sum, worn) != then) kinds &= ~(1 << kind);
                }
            }
            return kinds;
        }

        long explanations() {
            long all = 1;
            for (int person = 0; person < town.size(); person++) all *= Integer.bitCount(kindsOf(person));
            return all;
        }

        /** Gives each PERSON the least KIND that it MAY be: how many have another one then. */
        int settleKinds() {
            int otherwise = 0;
            for (int person = 0; person < town.size(); person++) {
                int kind = leastKind(kindsOf(person));
                if (kind != town.kind(person)) {
                    town.setKind(person, kind);
                    otherwise++;
                }
            }
            return otherwise;
        }

        private static int leastKind(int kinds) {
            int kind = 0;
            while (kind < KINDS - 1 && ((kinds >> kind) & 1) == 0) kind++;
            return kind;
        }
    }

    /** What is ASKED for, and what a shop gains by its stock. */
    static final class Shop {
        private final Town town;
        private final Walk walk;
        // How many come to wear 1 by a STEP from each DRESS.
        private final int[] dressing;
        // How many DRESSES there are from which so many clothes are ASKED for.
        private final int[] asking;

        Shop(Town town, Walk walk, Spare spare) {
            this.town = town;
            this.walk = walk;
            dressing = spare.a;
            asking = spare.b;
        }

        int askedFrom(int dress, int way, int steps) {
            int[] step = walk.stepsBy(way);
            int now = dress;
            int clothes = 0;
            for (int i = 0; i < steps; i++) {
                clothes += Integer.bitCount(step[now] & ~now);
                now = step[now];
            }
            return clothes;
        }

        int gainBy(int way, int steps, int stock, int cost, int price) {
            tally(way, steps);
            int sold = 0;
            for (int clothes = 0; clothes <= MOST_STOCK; clothes++) {
                sold += asking[clothes] * Math.min(clothes, stock);
            }
            return sold * price - town.dresses() * stock * cost;
        }

        int bestStock(int way, int steps, int cost, int price) {
            tally(way, steps);
            int dresses = town.dresses();
            int best = 0;
            int bestGain = 0;
            int gain = 0;
            int askingForMore = dresses - asking[0];
            for (int stock = 1; stock <= MOST_STOCK; stock++) {
                gain += askingForMore * price - dresses * cost;
                if (gain > bestGain) {
                    best = stock;
                    bestGain = gain;
                }
                askingForMore -= asking[stock];
            }
            return best;
        }

        /** Fills asking. It has room: 10 PEOPLE in 50 STEPS ask for 500 clothes at most. */
        private void tally(int way, int steps) {
            int[] step = walk.stepsBy(way);
            int dresses = town.dresses();
            for (int clothes = 0; clothes <= MOST_STOCK; clothes++) asking[clothes] = 0;
            for (int dress = 0; dress < dresses; dress++) {
                dressing[dress] = Integer.bitCount(step[dress] & ~dress);
            }
            for (int dress = 0; dress < dresses; dress++) {
                int now = dress;
                int clothes = 0;
                for (int i = 0; i < steps; i++) {
                    clothes += dressing[now];
                    now = step[now];
                }
                asking[clothes]++;
            }
        }
    }
}
