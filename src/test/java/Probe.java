/** All that an object tells of itself, as one text: two that differ in anything tell different texts. */
final class Probe {
    private final NotLikeThem x;
    private final int n;
    private final StringBuilder told = new StringBuilder();

    private Probe(NotLikeThem x) {
        this.x = x;
        n = x.count(0);
    }

    /** What can be asked without a change. Made for few PEOPLE: an object has 512 calls. */
    static String of(NotLikeThem x) {
        Probe probe = new Probe(x);
        probe.town();
        probe.dresses();
        probe.rings();
        probe.rests();
        probe.picture();
        probe.shop();
        return probe.told.toString();
    }

    /** What the PICTURE tells when TIES and LEANS change, and how much more it takes: this uses the object up. */
    static String usedUp(NotLikeThem x) {
        Probe probe = new Probe(x);
        for (int lean = -1; lean <= 1; lean++) {
            for (int p = 0; p < probe.n; p++) {
                for (int q = 0; q < probe.n; q++) probe.tell(x.tie(p, q, lean == 0 && q == (p + 1) % probe.n ? 1 : 0));
                probe.tell(x.set(p, 1, lean));
                probe.tell(x.maybe(p));
            }
        }
        for (int i = 0; i < 9; i++) probe.tell(x.week(0));
        probe.picture();
        probe.tell(x.wipe());
        probe.tell(x.take());
        probe.tell(x.people(probe.n));
        probe.town();
        return probe.told.toString();
    }

    private void tell(long answer) {
        told.append(answer).append(' ');
    }

    private void town() {
        for (int what = 0; what < 5; what++) tell(x.count(what));
        for (int p = 0; p < n; p++) {
            for (int what = 0; what < 4; what++) tell(x.about(p, what));
            for (int q = 0; q < n; q++) tell(x.sees(p, q));
        }
    }

    private void dresses() {
        for (int d = 0; d < 1 << n; d++) {
            tell(x.calm(d));
            tell(x.after(d, 0, 1));
            tell(x.run(d, 1, 1));
            tell(x.heat(d));
            tell(x.mays(d));
            tell(x.soon(d));
            tell(x.likely(d, 3, true));
            tell(x.asked(d, 1, 50));
            for (int p = 0; p < n; p++) {
                tell(x.sum(p, d));
                tell(x.lone(p, d));
            }
        }
    }

    private void rings() {
        for (int way = 0; way < 2; way++) {
            tell(x.rings(way));
            tell(x.longest(way));
            for (int what = 0; what < 4; what++) tell(x.ring(way, 0, what));
        }
    }

    private void rests() {
        tell(x.rests());
        tell(x.rest(0));
        tell(x.may(0, 0));
        tell(x.even());
        tell(x.settled());
        tell(x.witness());
        tell(x.turn());
        tell(x.turned());
        tell(x.hold(false));
        tell(x.hold(true));
    }

    private void picture() {
        tell(x.count(2));
        tell(x.ways());
        for (int p = 0; p < n; p++) tell(x.maybe(p));
    }

    private void shop() {
        tell(x.gain(0, 9, 3, 2, 5));
        tell(x.order(1, 50, 1, 9));
    }
}
