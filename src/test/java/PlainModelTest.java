/**
 * Random runs of calls, the same on NotLikeThem and on the plain model of the document: all answers
 * must be alike, refused calls and calls behind changes too. The same runs each time.
 */
public final class PlainModelTest {
    private static final int CALLS = 36;
    // These take the plain model long where there are many PEOPLE.
    private static final int TURN = 20, TURNED = 21, HOLD = 22, GAIN = 33, ORDER = 34;

    private final Check check = new Check("PlainModelTest");
    private final StringBuilder story = new StringBuilder();
    private long seed;
    private NotLikeThem x;
    private Plain y;
    private int n;

    public static void main(String[] args) {
        new PlainModelTest().all();
    }

    private void all() {
        for (int run = 0; run < 400; run++) {
            seed = 77777L + 1000003L * run;
            one(run, 150);
        }
        for (int run = 0; run < 40; run++) {
            seed = 12345L + 1000003L * run;
            one(run, 450);
        }
        check.end();
    }

    private int below(int bound) {
        seed = seed * 6364136223846793005L + 1442695040888963407L;
        return (int) ((seed >>> 33) % bound);
    }

    private void one(int run, int calls) {
        x = new NotLikeThem();
        y = new Plain();
        n = 4;
        story.setLength(0);
        int most = run % 8 == 7 ? 10 : run % 2 == 0 ? 5 : 7;
        for (int i = 0; i < calls; ) {
            if (i == 0 || below(60) == 0) i += build(1 + below(most));
            call(below(CALLS));
            i++;
        }
    }

    /** Makes a TOWN in which much goes on: how many calls it took. */
    private int build(int size) {
        int calls = 1;
        n = size;
        note("people(" + n + ")", x.people(n), y.people(n));
        int flavour = below(6);
        int dense = 1 + below(4);
        int heavy = 1 + below(9);
        for (int p = 0; p < n; p++) {
            for (int q = 0; q < n; q++) {
                if (p == q || flavour < 2 && q > p || below(4) >= dense) continue;
                int w = 1 + below(heavy);
                calls += tie(p, q, w);
                // Towns of the first two flavours are EVEN as to their WEIGHTS.
                if (flavour < 2) calls += tie(q, p, w);
            }
        }
        int onlyKind = below(2);
        for (int p = 0; p < n; p++) {
            int kind = flavour == 0 ? (below(3) == 0 ? 2 : onlyKind) : flavour == 5 ? below(4) : below(3);
            note("set(" + p + ", 0, " + kind + ")", x.set(p, 0, kind), y.set(p, 0, kind));
            calls++;
            if (below(3) > 0) continue;
            int lean = below(19) - 9;
            note("set(" + p + ", 1, " + lean + ")", x.set(p, 1, lean), y.set(p, 1, lean));
            calls++;
        }
        return calls;
    }

    private int tie(int p, int q, int w) {
        note("tie(" + p + ", " + q + ", " + w + ")", x.tie(p, q, w), y.tie(p, q, w));
        return 1;
    }

    private void note(String call, long got, long want) {
        story.append(call).append("; ");
        if (got != want) System.out.println(story);
        check.due(call, got, want);
    }

    private int wild() {
        int[] wilds = {-1, -2, -9, Integer.MIN_VALUE, Integer.MAX_VALUE, 1 << n, 1024, n, 10, 11, 501, 100, 51, 31, 32};
        return wilds[below(wilds.length)];
    }

    private int person() {
        return below(25) == 0 ? wild() : below(n);
    }

    private int dress() {
        return below(25) == 0 ? wild() : below(1 << n);
    }

    private int number(int least, int most) {
        return below(25) == 0 ? wild() : below(12) == 0 ? (below(2) == 0 ? least : most) : least + below(most - least + 1);
    }

    private void call(int which) {
        if (n > 6 && (which == TURN || which == TURNED || which == HOLD || which == GAIN || which == ORDER) && below(6) > 0) return;
        if (which < 6 || which == 35) town(which);
        else if (which < 13) steps(which);
        else if (which < 23) rests(which);
        else if (which < 27) chance(which);
        else if (which < 32) picture(which);
        else shop(which);
    }

    private void town(int which) {
        int p = person(), q = person(), what, v;
        switch (which) {
            case 0:
                if (below(4) > 0) return;
                v = below(3) == 0 ? below(13) - 1 : wild();
                if (v > 7) v = wild();
                note("people(" + v + ")", x.people(v), y.people(v));
                n = y.count(0);
                break;
            case 1:
                v = number(0, 9);
                note("tie(" + p + ", " + q + ", " + v + ")", x.tie(p, q, v), y.tie(p, q, v));
                break;
            case 2:
                what = number(0, 1);
                v = what == 0 ? number(0, below(3) == 0 ? 3 : 2) : number(-9, 9);
                note("set(" + p + ", " + what + ", " + v + ")", x.set(p, what, v), y.set(p, what, v));
                break;
            case 3:
                what = number(0, 3);
                note("about(" + p + ", " + what + ")", x.about(p, what), y.about(p, what));
                break;
            case 4:
                note("sees(" + p + ", " + q + ")", x.sees(p, q), y.sees(p, q));
                break;
            default:
                what = number(0, 4);
                note("count(" + what + ")", x.count(what), y.count(what));
        }
    }

    private void steps(int which) {
        int p = person(), d = dress(), w = number(0, 1), what;
        switch (which) {
            case 6:
                note("sum(" + p + ", " + d + ")", x.sum(p, d), y.sum(p, d));
                break;
            case 7:
                note("calm(" + d + ")", x.calm(d), y.calm(d));
                break;
            case 8:
                what = below(4) == 0 ? number(0, 10000) : number(0, 9);
                note("after(" + d + ", " + w + ", " + what + ")", x.after(d, w, what), y.after(d, w, what));
                break;
            case 9:
                what = number(0, 2);
                note("run(" + d + ", " + w + ", " + what + ")", x.run(d, w, what), y.run(d, w, what));
                break;
            case 10:
                note("rings(" + w + ")", x.rings(w), y.rings(w));
                break;
            case 11:
                what = number(0, 3);
                int most = Math.max(0, y.rings(w));
                int ring = number(0, most);
                note("ring(" + w + ", " + ring + ", " + what + ")", x.ring(w, ring, what), y.ring(w, ring, what));
                break;
            default:
                note("longest(" + w + ")", x.longest(w), y.longest(w));
        }
    }

    private void rests(int which) {
        int p = person(), d = dress();
        switch (which) {
            case 13:
                note("rests()", x.rests(), y.rests());
                break;
            case 14:
                int i = number(0, y.rests());
                note("rest(" + i + ")", x.rest(i), y.rest(i));
                break;
            case 15:
                note("even()", x.even(), y.even());
                break;
            case 16:
                note("heat(" + d + ")", x.heat(d), y.heat(d));
                break;
            case 17:
                note("lone(" + p + ", " + d + ")", x.lone(p, d), y.lone(p, d));
                break;
            case 18:
                note("settled()", x.settled(), y.settled());
                break;
            case 19:
                note("witness()", x.witness(), y.witness());
                break;
            case 20:
                note("turn()", x.turn(), y.turn());
                break;
            case 21:
                note("turned()", x.turned(), y.turned());
                break;
            default:
                boolean b = below(2) == 0;
                note("hold(" + b + ")", x.hold(b), y.hold(b));
        }
    }

    private void chance(int which) {
        int d = dress();
        switch (which) {
            case 23:
                int rest = number(0, y.rests());
                note("may(" + d + ", " + rest + ")", x.may(d, rest), y.may(d, rest));
                break;
            case 24:
                note("mays(" + d + ")", x.mays(d), y.mays(d));
                break;
            case 25:
                note("soon(" + d + ")", x.soon(d), y.soon(d));
                break;
            default:
                int draws = number(0, 4);
                boolean upper = below(2) == 0;
                note("likely(" + d + ", " + draws + ", " + upper + ")", x.likely(d, draws, upper), y.likely(d, draws, upper));
        }
    }

    private void picture(int which) {
        int p = person(), d = dress();
        switch (which) {
            case 27:
                if (below(3) == 0) weeksThatFit(d);
                note("week(" + d + ")", x.week(d), y.week(d));
                break;
            case 28:
                note("wipe()", x.wipe(), y.wipe());
                break;
            case 29:
                note("maybe(" + p + ")", x.maybe(p), y.maybe(p));
                break;
            case 30:
                note("ways()", x.ways(), y.ways());
                break;
            default:
                note("take()", x.take(), y.take());
        }
    }

    /** A PICTURE that the KINDS as they are explain, so that take has something to take. */
    private void weeksThatFit(int start) {
        int d = start;
        note("wipe()", x.wipe(), y.wipe());
        for (int i = 0; i < 2 + below(3); i++) {
            note("week(" + d + ")", x.week(d), y.week(d));
            d = Math.max(0, y.after(d, 0, 1));
        }
        note("ways()", x.ways(), y.ways());
        note("take()", x.take(), y.take());
    }

    private void shop(int which) {
        int d = dress(), w = number(0, 1), steps = number(1, 50), cost = number(1, 99), price = number(1, 99);
        switch (which) {
            case 32:
                note("asked(" + d + ", " + w + ", " + steps + ")", x.asked(d, w, steps), y.asked(d, w, steps));
                break;
            case 33:
                int s = below(2) == 0 ? number(0, 500) : number(0, 30);
                note("gain(" + w + ", " + steps + ", " + s + ", " + cost + ", " + price + ")",
                        x.gain(w, steps, s, cost, price), y.gain(w, steps, s, cost, price));
                break;
            default:
                cost = below(2) == 0 ? number(1, 10) : cost;
                note("order(" + w + ", " + steps + ", " + cost + ", " + price + ")",
                        x.order(w, steps, cost, price), y.order(w, steps, cost, price));
        }
    }
}
