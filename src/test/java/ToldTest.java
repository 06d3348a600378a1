/** Promises 14 to 22: about, near, given, far, held, as, released, under, frame. */
public final class ToldTest {
    private static final Check check = new Check("ToldTest");
    private static final int NONE = BoundFrames.NONE;
    private static final int UNKNOWN = BoundFrames.UNKNOWN;
    private static final int OUTSIDE = BoundFrames.OUTSIDE;
    private static final int STATE = BoundFrames.STATE;

    public static void main(String[] args) {
        withoutAir();
        abouts();
        nears();
        givens();
        fars();
        helds();
        kinds();
        releaseds();
        unders();
        frames();
        checks();
        check.end();
    }

    private static void withoutAir() {
        BoundFrames x = new BoundFrames();
        check.due("about(0)", x.about(0), STATE);
        check.due("about(7)", x.about(7), OUTSIDE);
        check.due("near", x.near(0, 99), UNKNOWN);
        check.due("given", x.given(0, 0, 99), UNKNOWN);
        check.due("far", x.far(0, 99), UNKNOWN);
        check.due("held", x.held(0, 0), UNKNOWN);
        check.due("as", x.as(0, 99), UNKNOWN);
        check.due("released", x.released(0, 0), UNKNOWN);
        check.due("under", x.under(0, 99), UNKNOWN);
        check.due("frame", x.frame(0, 0, 99), UNKNOWN);
    }

    private static void abouts() {
        BoundFrames x = Scene.withAir("4+3*2:5");
        x.pass(2);
        int[] awake = {4, 3, 2, 5, 2, 1, 2};
        for (int what = 0; what < 7; what++) {
            check.due("about " + what, x.about(what), awake[what]);
        }
        x.pass(2);
        int[] asleep = {4, 3, 2, 5, 4, 0, 0};
        for (int what = 0; what < 7; what++) {
            check.due("about " + what, x.about(what), asleep[what]);
        }
        check.due("about(-1)", x.about(-1), OUTSIDE);
        check.due("about(7)", x.about(7), OUTSIDE);
    }

    private static void tellsNear(BoundFrames x, int... want) {
        for (int what = 0; what < 10; what++) {
            check.due("near " + what, x.near(0, what), want[what]);
        }
    }

    private static void nears() {
        BoundFrames x = Scene.withAir("9+0*9:8");
        tellsNear(x, 0, NONE, NONE, NONE, NONE, NONE, NONE, NONE, NONE, NONE);
        x.open(0, 0, 5, 2, 1);
        tellsNear(x, 1, NONE, NONE, NONE, NONE, NONE, NONE, NONE, NONE, NONE);
        x.deliver(0, 0);
        x.deliver(0, 0);
        tellsNear(x, 2, 5, 2, 0, 0, 0, 0, 0, 0, 0);
        Scene.feed(x, 0, 1, 7, 1);
        tellsNear(x, 2, 5, 2, 0, 0, 7, 0, 0, 0, 0);
        x.bundle(0);
        tellsNear(x, 2, 5, 2, 0, 5, 2, 5, 1, 0, 0);
        x.deliver(0, 2);
        x.deliver(0, 0);
        tellsNear(x, 2, 5, 2, 1, 5, 2, 1, 0, 0, 0);
        x.bundle(0);
        tellsNear(x, 2, 5, 2, 1, 6, 1, 2, 1, 0, 0);
        x.expire(0);
        tellsNear(x, 2, 5, 2, 5, 6, 1, 1, 0, 1, 1);
        check.due("near(-1, 0)", x.near(-1, 0), UNKNOWN);
        check.due("near(4, 99)", x.near(4, 99), UNKNOWN);
        check.due("near(0, -1)", x.near(0, -1), OUTSIDE);
        check.due("near(0, 10)", x.near(0, 10), OUTSIDE);
        check.due("near(3, 10) of none", x.near(3, 10), OUTSIDE);
    }

    private static void givens() {
        BoundFrames x = Scene.withAir("9+0*9:3");
        check.due("given of none", x.given(0, 0, 0), UNKNOWN);
        x.open(0, 0, 5, 2, 1);
        check.due("given while ASKED", x.given(0, 0, 0), UNKNOWN);
        x.deliver(0, 0);
        x.deliver(0, 0);
        check.due("given of nothing", x.given(0, 0, 0), UNKNOWN);
        x.feed(0, 111, 4);
        x.feed(0, 222, 5);
        x.feed(0, 333, 6);
        x.bundle(0);
        x.deliver(0, 3);
        x.deliver(0, 0);
        int[][] want = {{0, 111, 4, 1, 0}, {1, 222, 5, 1, 0}, {2, 333, 6, 1, 1}};
        for (int place = 0; place < 3; place++) {
            for (int what = 0; what < 5; what++) {
                check.due("given " + place + " " + what, x.given(0, place, what), want[place][what]);
            }
        }
        check.due("place -1", x.given(0, -1, 0), UNKNOWN);
        check.due("place 3", x.given(0, 3, 9), UNKNOWN);
        check.due("class 4", x.given(4, 0, 0), UNKNOWN);
        check.due("class -1", x.given(-1, 0, 0), UNKNOWN);
        check.due("what -1", x.given(0, 0, -1), OUTSIDE);
        check.due("what 5", x.given(0, 0, 5), OUTSIDE);
    }

    private static void tellsFar(BoundFrames x, int... want) {
        for (int what = 0; what < 9; what++) {
            check.due("far " + what, x.far(0, what), want[what]);
        }
    }

    private static void fars() {
        BoundFrames x = Scene.withAir("9+0*9:8");
        tellsFar(x, 0, NONE, NONE, NONE, NONE, NONE, NONE, NONE, NONE);
        x.open(0, 1, 14, 2, 9);
        tellsFar(x, 0, NONE, NONE, NONE, NONE, NONE, NONE, NONE, NONE);
        x.deliver(0, 0);
        tellsFar(x, 1, 1, 12, 0, 0, 0, 0, 0, 0);
        x.deliver(0, 0);
        Scene.feed(x, 0, 1, 5, 1);
        x.bundle(0);
        x.deliver(0, 2);
        x.pass(3);
        tellsFar(x, 1, 1, 12, 1, 0, 29, 3, 3, 0);
        x.expire(0);
        x.bundle(0);
        x.deliver(0, 2);
        tellsFar(x, 1, 1, 12, 1, 0, 29, 3, 3, 4);
        check.due("far(-1, 0)", x.far(-1, 0), UNKNOWN);
        check.due("far(4, 99)", x.far(4, 99), UNKNOWN);
        check.due("far(0, -1)", x.far(0, -1), OUTSIDE);
        check.due("far(0, 9)", x.far(0, 9), OUTSIDE);
        check.due("far(1, 9) of none", x.far(1, 9), OUTSIDE);
    }

    private static void helds() {
        BoundFrames x = Scene.withAir("9+0*9:8");
        check.due("held of none", x.held(0, 0), UNKNOWN);
        for (int window = 1; window <= 12; window++) {
            Scene.setUp(x, 0, 0, window, 1, 1);
            check.due("place -1", x.held(0, -1), UNKNOWN);
            check.due("first place", x.held(0, 0), NONE);
            check.due("last place", x.held(0, window - 1), NONE);
            check.due("place behind it", x.held(0, window), UNKNOWN);
            x.close(0);
            check.due("the far end is still there", x.held(0, 0), NONE);
            x.deliver(0, 0);
            check.due("no SESSION any more", x.held(0, 0), UNKNOWN);
        }
        check.due("class 4", x.held(4, 0), UNKNOWN);
        check.due("class -1", x.held(-1, 0), UNKNOWN);
    }

    private static void kinds() {
        int[][] want = {{0, NONE, NONE}, {1, 1, NONE}, {NONE, NONE, 2}};
        for (int kind = 0; kind < 3; kind++) {
            BoundFrames x = Scene.withAir("9+0*9:8");
            check.due("as of none", x.as(kind, 9), UNKNOWN);
            Scene.setUp(x, kind, kind, 4, 1, 1);
            for (int as = 0; as < 3; as++) {
                check.due("KIND " + kind + " as " + as, x.as(kind, as), want[kind][as]);
            }
            check.due("as -1", x.as(kind, -1), OUTSIDE);
            check.due("as 3", x.as(kind, 3), OUTSIDE);
            check.due("class 4", x.as(4, 0), UNKNOWN);
            check.due("class -1", x.as(-1, 0), UNKNOWN);
        }
    }

    private static void releaseds() {
        BoundFrames x = Scene.withAir("9+0*9:8");
        check.due("nothing RELEASED", x.released(0, 0), UNKNOWN);
        Scene.setUp(x, 0, 0, 8, 4, 1);
        Scene.feed(x, 0, 1, 7, 1);
        Scene.exchange(x, 0, 0);
        for (int place = 0; place < 7; place++) {
            check.due("released " + place, x.released(0, place), 7 - place);
        }
        check.due("place 7", x.released(0, 7), UNKNOWN);
        Scene.feed(x, 0, 8, 5, 1);
        Scene.exchange(x, 0, 0);
        x.close(0);
        x.deliver(0, 0);
        for (int place = 0; place < 10; place++) {
            check.due("released " + place, x.released(0, place), 12 - place);
        }
        check.due("ten are kept", x.released(0, 10), UNKNOWN);
        check.due("all are counted", x.count(4), 12);
        check.due("place -1", x.released(0, -1), UNKNOWN);
        check.due("class 4", x.released(4, 0), UNKNOWN);
        check.due("class -1", x.released(-1, 0), UNKNOWN);
        check.due("another class", x.released(1, 0), UNKNOWN);
    }

    private static void tellsUnder(BoundFrames x, int... want) {
        for (int what = 0; what < 6; what++) {
            check.due("under " + what, x.under(0, what), want[what]);
        }
        check.due("what -1", x.under(0, -1), OUTSIDE);
        check.due("what 6", x.under(0, 6), OUTSIDE);
        check.due("place -1", x.under(-1, 6), UNKNOWN);
        check.due("place 1", x.under(1, 6), UNKNOWN);
    }

    private static void unders() {
        BoundFrames x = Scene.withAir("9+0*9:8");
        x.open(2, 0, 13, 1, 1);
        tellsUnder(x, 0, 2, 0, NONE, NONE, 13);
        x.deliver(0, 0);
        tellsUnder(x, 1, 2, 0, NONE, NONE, 12);
        x.deliver(0, 0);
        Scene.feed(x, 2, 1, 3, 1);
        x.bundle(2);
        tellsUnder(x, 2, 2, 3, NONE, NONE, NONE);
        x.deliver(0, 1);
        tellsUnder(x, 4, 2, 0, 0, 6, NONE);
        x.deliver(0, 0);
        x.bundle(2);
        tellsUnder(x, 3, 2, 0, 3, NONE, NONE);
        x.deliver(0, 0);
        tellsUnder(x, 4, 2, 0, 3, 0, NONE);
        x.deliver(0, 0);
        x.close(2);
        tellsUnder(x, 5, 2, 0, NONE, NONE, NONE);
    }

    private static void frames() {
        BoundFrames x = Scene.withAir("9+0*9:8");
        x.open(1, 0, 4, 1, 1);
        check.due("an ASK has none", x.frame(0, 0, 0), UNKNOWN);
        x.deliver(0, 0);
        x.deliver(0, 0);
        x.feed(1, 999, 20);
        x.feed(1, 256, 2);
        x.bundle(1);
        check.due("CHECK", x.frame(0, 1, 3), slowCheck(1, 1, 256, 2));
        check.due("NUMBER", x.frame(0, 1, 0), 1);
        check.due("VALUE", x.frame(0, 0, 1), 999);
        check.due("VALUE", x.frame(0, 1, 1), 256);
        check.due("LENGTH", x.frame(0, 0, 2), 20);
        check.due("frame -1", x.frame(0, -1, 0), UNKNOWN);
        check.due("frame 2", x.frame(0, 2, 9), UNKNOWN);
        check.due("place 1", x.frame(1, 0, 0), UNKNOWN);
        check.due("place -1", x.frame(-1, 0, 0), UNKNOWN);
        check.due("what -1", x.frame(0, 0, -1), OUTSIDE);
        check.due("what 4", x.frame(0, 0, 4), OUTSIDE);
        x.deliver(0, 0);
        check.due("an ANSWER has none", x.frame(0, 0, 0), UNKNOWN);
    }

    /** By division of polynomials in one row of forty bits, not by a register. */
    private static int slowCheck(int of, int number, int value, int length) {
        long row = ((((long) of << 8 | number) << 8 | value >> 8) << 8 | (value & 255)) << 8 | length;
        row <<= 8;
        for (int bit = 47; bit >= 8; bit--) {
            if ((row >> bit & 1) == 1) {
                row ^= 0x107L << (bit - 8);
            }
        }
        return (int) row;
    }

    private static void checks() {
        for (int of = 0; of < 4; of++) {
            BoundFrames x = Scene.withAir("9+0*9:4");
            Scene.setUp(x, of, 0, 12, 4, 1);
            for (int i = 0; i < 17; i++) {
                for (int k = 0; k < 4; k++) {
                    x.feed(of, 1 + (i * 4 + k) * 331 % 999, 1 + (i * 7 + k) % 20);
                }
                int size = x.bundle(of);
                for (int k = 0; k < size; k++) {
                    int number = x.frame(0, k, 0);
                    int value = x.frame(0, k, 1);
                    int length = x.frame(0, k, 2);
                    check.due("CHECK", x.frame(0, k, 3), slowCheck(of, number, value, length));
                }
                x.deliver(0, 0);
                x.deliver(0, 0);
            }
        }
    }
}
