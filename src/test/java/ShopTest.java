/** Promises 33 to 35: what is asked for, and what a shop should have in stock. */
public final class ShopTest {
    private static final int OUTSIDE = -2;
    private static final Check check = new Check("ShopTest");

    public static void main(String[] args) {
        asked();
        askedByBothWays();
        gain();
        order();
        mostOfAll();
        refusals();
        check.end();
    }

    /** One who is TIRED: asks for one every other STEP. */
    private static NotLikeThem tired() {
        NotLikeThem x = new NotLikeThem();
        x.people(1);
        x.set(0, 0, 3);
        return x;
    }

    private static void asked() {
        NotLikeThem x = tired();
        for (int steps = 1; steps <= 50; steps++) {
            for (int way = 0; way < 2; way++) {
                check.due("asked(0, " + way + ", " + steps + ")", x.asked(0, way, steps), (steps + 1) / 2);
                check.due("asked(1, " + way + ", " + steps + ")", x.asked(1, way, steps), steps / 2);
            }
        }
        x.people(3);
        check.due("asked(5, 0, 50) at a REST", x.asked(5, 0, 50), 0);
    }

    private static void askedByBothWays() {
        NotLikeThem x = new NotLikeThem();
        x.people(2);
        x.set(0, 0, 3);
        x.tie(1, 0, 1);
        check.due("asked(0, 0, 1)", x.asked(0, 0, 1), 1);
        check.due("asked(0, 1, 1)", x.asked(0, 1, 1), 2);
        check.due("asked(1, 0, 1)", x.asked(1, 0, 1), 1);
        check.due("asked(1, 1, 1)", x.asked(1, 1, 1), 0);
        check.due("asked(0, 0, 4)", x.asked(0, 0, 4), 4);
        check.due("asked(0, 1, 4)", x.asked(0, 1, 4), 4);
        check.due("asked(3, 1, 3)", x.asked(3, 1, 3), 2);
    }

    private static void gain() {
        NotLikeThem x = tired();
        // In one STEP one is ASKED for from 0, none from 1.
        check.due("gain(0, 1, 0, 3, 8)", x.gain(0, 1, 0, 3, 8), 0);
        check.due("gain(0, 1, 1, 3, 8)", x.gain(0, 1, 1, 3, 8), 8 - 2 * 3);
        check.due("gain(0, 1, 2, 3, 8)", x.gain(0, 1, 2, 3, 8), 8 - 4 * 3);
        check.due("gain(1, 1, 500, 99, 1)", x.gain(1, 1, 500, 99, 1), 1 - 1000 * 99);
        // In 49 STEPS 25 and 24.
        check.due("gain(0, 49, 24, 5, 9)", x.gain(0, 49, 24, 5, 9), 48 * 9 - 48 * 5);
        check.due("gain(0, 49, 25, 5, 9)", x.gain(0, 49, 25, 5, 9), 49 * 9 - 50 * 5);
        check.due("gain(1, 49, 26, 5, 9)", x.gain(1, 49, 26, 5, 9), 49 * 9 - 52 * 5);
    }

    private static void order() {
        NotLikeThem x = tired();
        check.due("order(0, 1, 3, 8)", x.order(0, 1, 3, 8), 1);
        check.due("order(0, 1, 4, 8) of like ones", x.order(0, 1, 4, 8), 0);
        check.due("order(0, 1, 5, 8)", x.order(0, 1, 5, 8), 0);
        check.due("order(0, 49, 49, 99)", x.order(0, 49, 49, 99), 25);
        check.due("order(0, 49, 50, 99)", x.order(0, 49, 50, 99), 24);
        check.due("order(1, 49, 98, 99)", x.order(1, 49, 98, 99), 24);
        check.due("order(1, 49, 99, 99)", x.order(1, 49, 99, 99), 0);
        check.due("order(1, 49, 99, 1)", x.order(1, 49, 99, 1), 0);
        // 0 flees 1, who is firm: from one DRESS of four one is ASKED for.
        x.people(2);
        x.set(1, 0, 2);
        x.set(0, 0, 1);
        x.tie(0, 1, 1);
        check.due("order(0, 50, 1, 4)", x.order(0, 50, 1, 4), 0);
        check.due("order(0, 50, 1, 5)", x.order(0, 50, 1, 5), 1);
    }

    private static void mostOfAll() {
        NotLikeThem x = new NotLikeThem();
        x.people(10);
        for (int p = 0; p < 10; p++) x.set(p, 0, 3);
        check.due("asked(0, 0, 50)", x.asked(0, 0, 50), 250);
        check.due("asked(1023, 1, 49)", x.asked(1023, 1, 49), 240);
        check.due("gain(0, 50, 250, 1, 99)", x.gain(0, 50, 250, 1, 99), 1024 * 250 * 98);
        check.due("gain(0, 50, 500, 99, 99)", x.gain(0, 50, 500, 99, 99), -1024 * 250 * 99);
        check.due("gain(0, 50, 500, 99, 1)", x.gain(0, 50, 500, 99, 1), 1024 * (250 - 500 * 99));
        check.due("order(0, 50, 98, 99)", x.order(0, 50, 98, 99), 250);
        check.due("order(0, 50, 99, 99)", x.order(0, 50, 99, 99), 0);
    }

    private static void refusals() {
        NotLikeThem x = new NotLikeThem();
        check.due("asked(16, 0, 1)", x.asked(16, 0, 1), OUTSIDE);
        check.due("asked(-1, 0, 1)", x.asked(-1, 0, 1), OUTSIDE);
        check.due("asked(0, 2, 1)", x.asked(0, 2, 1), OUTSIDE);
        check.due("asked(0, -1, 1)", x.asked(0, -1, 1), OUTSIDE);
        check.due("asked(0, 0, 0)", x.asked(0, 0, 0), OUTSIDE);
        check.due("asked(0, 0, 51)", x.asked(0, 0, 51), OUTSIDE);
        int[][] wrongGains = {
            {2, 1, 1, 1, 1}, {-1, 1, 1, 1, 1}, {0, 0, 1, 1, 1}, {0, 51, 1, 1, 1}, {0, 1, -1, 1, 1},
            {0, 1, 501, 1, 1}, {0, 1, 1, 0, 1}, {0, 1, 1, 100, 1}, {0, 1, 1, 1, 0}, {0, 1, 1, 1, 100},
        };
        for (int[] g : wrongGains) {
            String row = g[0] + ", " + g[1] + ", " + g[2] + ", " + g[3] + ", " + g[4];
            check.due("gain(" + row + ")", x.gain(g[0], g[1], g[2], g[3], g[4]), OUTSIDE);
            if (g[2] == 1) check.due("order(without s: " + row + ")", x.order(g[0], g[1], g[3], g[4]), OUTSIDE);
        }
        check.due("gain(0, 50, 500, 99, 99) is none", x.gain(0, 50, 500, 99, 99), -16 * 500 * 99);
        check.due("order(1, 50, 1, 99) of none", x.order(1, 50, 1, 99), 0);
    }
}
