import java.util.Random;

/** Promises 23 and 24: count and digest; and that no call throws, and none that is refused changes anything. */
public final class AllTest {
    private static final Check check = new Check("AllTest");

    public static void main(String[] args) {
        counts();
        digests();
        anyArguments();
        check.end();
    }

    private static void tellsCounts(BoundFrames x, int... want) {
        for (int what = 0; what < 10; what++) {
            check.due("count " + what, x.count(what), want[what]);
        }
        check.due("count(-1)", x.count(-1), BoundFrames.OUTSIDE);
        check.due("count(10)", x.count(10), BoundFrames.OUTSIDE);
    }

    private static void counts() {
        BoundFrames x = new BoundFrames();
        tellsCounts(x, 0, 0, 0, 0, 0, 0, 0, 0, 0, 0);
        x.letter('1');
        tellsCounts(x, 0, 0, 0, 0, 0, 0, 0, 0, 1, 0);
        x.blank();
        Scene.write(x, "9+0*9:8");
        x.air();
        Scene.setUp(x, 0, 0, 6, 2, 1);
        tellsCounts(x, 2, 0, 0, 0, 0, 0, 0, 0, 0, 1);
        Scene.feed(x, 0, 1, 4, 1);
        x.bundle(0);
        tellsCounts(x, 3, 0, 4, 0, 0, 0, 0, 1, 0, 1);
        x.deliver(0, 2);
        tellsCounts(x, 4, 0, 4, 3, 1, 0, 0, 1, 0, 1);
        x.expire(0);
        tellsCounts(x, 4, 1, 4, 3, 1, 0, 0, 0, 0, 1);
        x.bundle(0);
        x.deliver(0, 2);
        tellsCounts(x, 6, 1, 8, 6, 1, 3, 0, 1, 0, 1);
        x.deliver(0, 0);
        tellsCounts(x, 6, 1, 8, 6, 1, 3, 1, 0, 0, 1);
        Scene.write(x, "1+0*1:1");
        x.air();
        tellsCounts(x, 0, 0, 0, 0, 0, 0, 0, 0, 0, 2);
    }

    private static void digests() {
        BoundFrames x = new BoundFrames();
        check.due("digest of a new one", x.digest(), Told.digest(x, ""));
        Scene.write(x, "xyz");
        check.due("digest with a PAGE", x.digest(), Told.digest(x, "xyz"));
        x = Scene.withAir("9+0*9:8");
        check.due("digest with an AIR", x.digest(), Told.digest(x, ""));
        Scene.setUp(x, 1, 1, 12, 2, 9);
        Scene.setUp(x, 3, 2, 3, 2, 9);
        Scene.feed(x, 1, 901, 14, 2);
        Scene.exchange(x, 1, 128);
        Scene.feed(x, 3, 500, 6, 20);
        x.bundle(1);
        x.deliver(0, 9);
        check.holds("some are RELEASED", x.released(1, 6) == 901);
        x.bundle(3);
        x.open(0, 0, 15, 1, 1);
        x.pass(2);
        Scene.write(x, " ~");
        check.due("digest with all", x.digest(), Told.digest(x, " ~"));
        check.due("digest once more", x.digest(), x.digest());
    }

    private static int odd(Random random) {
        int[] edges = {Integer.MIN_VALUE, Integer.MAX_VALUE, -1, 0, 1, 2, 3, 4, 12, 16, 20, 63, 64, 255, 256, 999, 1000};
        return random.nextInt(3) == 0 ? random.nextInt() : edges[random.nextInt(edges.length)];
    }

    private static long call(BoundFrames x, int which, Random random) {
        int a = odd(random);
        int b = odd(random);
        int c = odd(random);
        switch (which) {
            case 0: return x.letter(a);
            case 1: return x.fault();
            case 2: return x.air();
            case 3: return x.open(a, b, c, odd(random), odd(random));
            case 4: return x.close(a);
            case 5: return x.feed(a, b, c);
            case 6: return x.bundle(a);
            case 7: return x.expire(a);
            case 8: return x.deliver(a, b);
            case 9: return x.lose(a);
            case 10: return x.pass(a);
            case 11: return x.about(a);
            case 12: return x.near(a, b);
            case 13: return x.given(a, b, c);
            case 14: return x.far(a, b);
            case 15: return x.held(a, b);
            case 16: return x.as(a, b);
            case 17: return x.released(a, b);
            case 18: return x.under(a, b);
            case 19: return x.frame(a, b, c);
            default: return x.count(a);
        }
    }

    private static void anyArguments() {
        for (int seed = 0; seed < 700; seed++) {
            Random random = new Random(seed);
            BoundFrames x = seed % 5 == 0 ? new BoundFrames() : Scene.withAir("9+1*9:8");
            for (int i = 0; i < 150; i++) {
                int which = random.nextInt(21);
                long before = x.digest();
                long got = call(x, which, random);
                boolean tells = which == 1 || which > 10;
                if (tells || got < BoundFrames.NONE) {
                    check.due("digest behind call " + which + " that answered " + got, x.digest(), before);
                }
            }
        }
    }
}
