/** Promises 6 to 10: open, close, feed, bundle, expire. */
public final class NearEndTest {
    private static final Check check = new Check("NearEndTest");
    private static final int UNKNOWN = BoundFrames.UNKNOWN;
    private static final int OUTSIDE = BoundFrames.OUTSIDE;
    private static final int STATE = BoundFrames.STATE;

    public static void main(String[] args) {
        opens();
        openRefuses();
        closes();
        closeRefuses();
        feeds();
        bundleByBound();
        bundleByLengths();
        bundleByWindow();
        bundleOfOldThenNew();
        firstThatDoesNotFitEnds();
        bundleRefuses();
        bars();
        expiresAsked();
        expiresBundle();
        expiresBar();
        givesUpWithAnswer();
        answersByBits();
        numbersComeRound();
        check.end();
    }

    private static void opens() {
        BoundFrames x = Scene.withAir("9+0*9:8");
        check.due("open 0", x.open(0, 0, 1, 1, 1), 1);
        check.due("open 3", x.open(3, 2, 15, 4, 20), 2);
        check.due("ASKED", x.near(3, 0), 1);
        check.due("far end before ASK arrives", x.far(3, 0), 0);
        check.due("SORT", x.under(1, 0), 0);
        check.due("CLASS", x.under(1, 1), 3);
        check.due("WINDOW of ASK", x.under(1, 5), 15);
        check.due("deliver ASK", x.deliver(1, 0), 1);
        check.due("SORT of YES", x.under(1, 0), 1);
        check.due("WINDOW of YES", x.under(1, 5), 12);
        check.due("still ASKED", x.near(3, 0), 1);
        check.due("WINDOW while ASKED", x.near(3, 1), BoundFrames.NONE);
        check.due("far WINDOW", x.far(3, 2), 12);
        check.due("far KIND", x.far(3, 1), 2);
        check.due("deliver YES", x.deliver(1, 0), 1);
        check.due("OPEN", x.near(3, 0), 2);
        check.due("WINDOW", x.near(3, 1), 12);
        check.due("TRIES", x.near(3, 2), 4);
        check.due("letters sent", x.count(0), 3);
    }

    private static void openRefuses() {
        BoundFrames x = new BoundFrames();
        check.due("no AIR is told first", x.open(9, 9, 0, 0, 0), STATE);
        x = Scene.withAir("1+9*1:1");
        int[][] wrong = {{-1, 0, 1, 1, 1}, {4, 0, 1, 1, 1}, {4, 9, 99, 9, 99}, {0, -1, 1, 1, 1}, {0, 3, 1, 1, 1},
            {0, 0, 0, 1, 1}, {0, 0, 16, 1, 1}, {0, 0, 1, 0, 1}, {0, 0, 1, 5, 1}, {0, 0, 1, 1, 0}, {0, 0, 1, 1, 21}};
        long before = x.digest();
        for (int i = 0; i < wrong.length; i++) {
            int[] w = wrong[i];
            check.due("wrong open " + i, x.open(w[0], w[1], w[2], w[3], w[4]), i < 3 ? UNKNOWN : OUTSIDE);
        }
        check.due("digest behind refusals", x.digest(), before);
        check.due("open", x.open(0, 0, 1, 1, 1), 1);
        check.due("open while ASKED", x.open(0, 0, 1, 1, 1), STATE);
        check.due("OUTSIDE ahead of STATE", x.open(0, 3, 1, 1, 1), OUTSIDE);
        x.deliver(0, 0);
        x.deliver(0, 0);
        check.due("open while OPEN", x.open(0, 0, 1, 1, 1), STATE);
        check.due("close", x.close(0), 0);
        check.due("open while END is under way", x.open(0, 0, 1, 1, 1), STATE);
        check.due("open of another class then", x.open(1, 0, 1, 1, 1), 2);
        check.due("END is lost", x.lose(0), 5);
        check.due("open again", x.open(0, 0, 1, 1, 1), 2);
    }

    private static void closes() {
        BoundFrames x = Scene.withAir("9+0*9:8");
        Scene.setUp(x, 2, 0, 4, 4, 1);
        Scene.feed(x, 2, 1, 7, 1);
        x.bundle(2);
        x.deliver(0, 5);
        x.deliver(0, 0);
        check.due("not DONE", x.near(2, 6), 2);
        check.due("QUEUE", x.near(2, 5), 3);
        check.due("close", x.close(2), 5);
        check.due("none", x.near(2, 0), 0);
        check.due("END", x.under(0, 0), 5);
        check.due("CLASS of END", x.under(0, 1), 2);
        check.due("far end still there", x.far(2, 0), 1);
        check.due("HELD ahead of END", x.count(4), 0);
        check.due("deliver END", x.deliver(0, 0), 1);
        check.due("far end gone", x.far(2, 0), 0);
        check.due("RELEASED by END", x.count(4), 2);
        check.due("the latest", x.released(2, 0), 4);
        check.due("the first", x.released(2, 1), 2);
        Scene.setUp(x, 2, 0, 4, 4, 1);
        check.due("START anew", x.near(2, 3), 0);
        check.due("NEXT anew", x.near(2, 4), 0);
        check.due("QUEUE anew", x.near(2, 5), 0);
    }

    private static void closeRefuses() {
        BoundFrames x = new BoundFrames();
        check.due("close without AIR", x.close(0), UNKNOWN);
        x = Scene.withAir("9+0*9:8");
        check.due("close -1", x.close(-1), UNKNOWN);
        check.due("close 4", x.close(4), UNKNOWN);
        check.due("close of none", x.close(0), STATE);
        x.open(0, 0, 4, 1, 1);
        check.due("close while ASKED", x.close(0), STATE);
        x.deliver(0, 0);
        x.deliver(0, 0);
        x.feed(0, 1, 1);
        x.bundle(0);
        long before = x.digest();
        check.due("close while it AWAITS", x.close(0), STATE);
        check.due("digest behind it", x.digest(), before);
    }

    private static void feeds() {
        BoundFrames x = new BoundFrames();
        check.due("feed without AIR", x.feed(0, 1, 1), UNKNOWN);
        x = Scene.withAir("9+0*9:8");
        check.due("feed -1", x.feed(-1, 1, 1), UNKNOWN);
        check.due("feed 4", x.feed(4, 0, 0), UNKNOWN);
        check.due("OUTSIDE ahead of STATE", x.feed(0, 0, 1), OUTSIDE);
        check.due("feed of none", x.feed(0, 1, 1), STATE);
        x.open(0, 0, 4, 1, 1);
        check.due("feed while ASKED", x.feed(0, 1, 1), STATE);
        x.deliver(0, 0);
        x.deliver(0, 0);
        check.due("value 0", x.feed(0, 0, 1), OUTSIDE);
        check.due("value 1000", x.feed(0, 1000, 1), OUTSIDE);
        check.due("length 0", x.feed(0, 1, 0), OUTSIDE);
        check.due("length 21", x.feed(0, 1, 21), OUTSIDE);
        check.due("least", x.feed(0, 1, 1), 1);
        check.due("most", x.feed(0, 999, 20), 2);
        for (int i = 3; i <= 24; i++) {
            check.due("feed " + i, x.feed(0, i, 1), i);
        }
        long before = x.digest();
        check.due("feed 25", x.feed(0, 25, 1), BoundFrames.FULL);
        check.due("OUTSIDE ahead of FULL", x.feed(0, 25, 0), OUTSIDE);
        check.due("digest behind them", x.digest(), before);
        check.due("bundle", x.bundle(0), 4);
        check.due("feed behind bundle", x.feed(0, 25, 1), 21);
        check.due("first one given", x.given(0, 0, 1), 1);
        check.due("second one given", x.given(0, 1, 1), 999);
        check.due("its LENGTH", x.given(0, 1, 2), 20);
    }

    private static void bundleByBound() {
        for (int bound = 1; bound <= 8; bound++) {
            BoundFrames x = Scene.withAir("9+0*9:" + bound);
            Scene.setUp(x, 1, 0, 12, 1, 1);
            Scene.feed(x, 1, 100, 12, 1);
            check.due("bundle by BOUND " + bound, x.bundle(1), bound);
            check.due("its SUB-FRAMES", x.under(0, 2), bound);
            check.due("sub-frames sent", x.count(2), bound);
            check.due("NEXT", x.near(1, 4), bound);
            check.due("QUEUE", x.near(1, 5), 12 - bound);
            check.due("AWAITS", x.near(1, 7), 1);
            check.due("last VALUE", x.frame(0, bound - 1, 1), 99 + bound);
        }
    }

    private static void bundleByLengths() {
        BoundFrames x = Scene.withAir("3+1*4:8");
        Scene.setUp(x, 0, 0, 12, 4, 1);
        Scene.feed(x, 0, 1, 6, 4);
        check.due("bundle with LEFT 3", x.bundle(0), 3);
        x.expire(0);
        x.pass(1);
        check.due("bundle with LEFT 2", x.bundle(0), 2);
        x.expire(0);
        x.pass(1);
        check.due("bundle with LEFT 1", x.bundle(0), 1);
        check.due("TRIED of the first", x.given(0, 0, 3), 3);
        check.due("TRIED of the second", x.given(0, 1, 3), 2);
        check.due("TRIED of the third", x.given(0, 2, 3), 1);
        x.expire(0);
        x.pass(1);
        check.due("ASLEEP", x.bundle(0), STATE);
        x.pass(1);
        check.due("AWAKE again", x.bundle(0), 3);
    }

    private static void bundleByWindow() {
        for (int window = 2; window <= 8; window++) {
            BoundFrames x = Scene.withAir("9+0*9:8");
            Scene.setUp(x, 0, 0, window, 4, 1);
            Scene.feed(x, 0, 1, 20, 1);
            check.due("bundle by WINDOW " + window, x.bundle(0), window);
            x.deliver(0, 1);
            x.deliver(0, 0);
            check.due("only the first one again", x.bundle(0), 1);
            check.due("its NUMBER", x.frame(0, 0, 0), 0);
            x.deliver(0, 0);
            x.deliver(0, 0);
            check.due("START", x.near(0, 3), window);
            check.due("bundle behind it", x.bundle(0), window);
        }
    }

    private static void bundleOfOldThenNew() {
        BoundFrames x = Scene.withAir("9+0*9:8");
        Scene.setUp(x, 0, 0, 6, 4, 1);
        Scene.feed(x, 0, 1, 4, 3);
        x.bundle(0);
        x.deliver(0, 1 + 4);
        x.deliver(0, 0);
        Scene.feed(x, 0, 50, 4, 2);
        check.due("old then new", x.bundle(0), 4);
        int[] numbers = {0, 2, 4, 5};
        int[] values = {1, 3, 50, 51};
        int[] tried = {2, 1, 2, 1, 1, 1};
        for (int i = 0; i < 4; i++) {
            check.due("NUMBER " + i, x.frame(0, i, 0), numbers[i]);
            check.due("VALUE " + i, x.frame(0, i, 1), values[i]);
            check.due("LENGTH " + i, x.frame(0, i, 2), i < 2 ? 3 : 2);
        }
        for (int i = 0; i < 6; i++) {
            check.due("TRIED " + i, x.given(0, i, 3), tried[i]);
        }
        check.due("QUEUE", x.near(0, 5), 2);
    }

    private static void firstThatDoesNotFitEnds() {
        BoundFrames x = Scene.withAir("1+0*9:8");
        Scene.setUp(x, 0, 0, 6, 4, 1);
        x.feed(0, 1, 5);
        x.feed(0, 2, 5);
        x.feed(0, 3, 1);
        check.due("a shorter one behind does not come", x.bundle(0), 1);
        check.due("QUEUE", x.near(0, 5), 2);
        x.deliver(0, 0);
        x.deliver(0, 0);
        check.due("they come together then", x.bundle(0), 2);
    }

    private static void bundleRefuses() {
        BoundFrames x = new BoundFrames();
        check.due("bundle without AIR", x.bundle(0), UNKNOWN);
        x = Scene.withAir("2+1*5:8");
        check.due("bundle -1", x.bundle(-1), UNKNOWN);
        check.due("bundle 4", x.bundle(4), UNKNOWN);
        check.due("bundle of none", x.bundle(0), STATE);
        x.open(0, 0, 4, 1, 1);
        check.due("bundle while ASKED", x.bundle(0), STATE);
        x.deliver(0, 0);
        x.deliver(0, 0);
        check.due("nothing fed", x.bundle(0), STATE);
        x.feed(0, 1, 11);
        long before = x.digest();
        check.due("too long", x.bundle(0), STATE);
        check.due("digest behind it", x.digest(), before);
        x.close(0);
        x.deliver(0, 0);
        Scene.setUp(x, 0, 0, 4, 1, 1);
        x.feed(0, 1, 10);
        check.due("just as long", x.bundle(0), 1);
        check.due("while it AWAITS", x.bundle(0), STATE);
        x.lose(0);
        check.due("still AWAITS", x.bundle(0), STATE);
    }

    private static void bars() {
        BoundFrames x = Scene.withAir("9+0*9:8");
        Scene.setUp(x, 3, 0, 4, 1, 1);
        Scene.feed(x, 3, 1, 6, 1);
        x.bundle(3);
        x.expire(3);
        check.due("LOST", x.near(3, 9), 4);
        check.due("BAR is to be sent", x.near(3, 8), 1);
        check.due("START", x.near(3, 3), 4);
        check.due("not DONE", x.near(3, 6), 0);
        int sent = x.count(2);
        check.due("BAR goes", x.bundle(3), 0);
        check.due("no SUB-FRAMES", x.count(2), sent);
        check.due("SORT", x.under(0, 0), 3);
        check.due("NUMBER", x.under(0, 3), 4);
        check.due("AWAITS", x.near(3, 7), 1);
        check.due("no BAR more", x.near(3, 8), 0);
        check.due("bundle while it AWAITS", x.bundle(3), STATE);
        check.due("deliver BAR", x.deliver(0, 0), 1);
        check.due("FROM", x.far(3, 3), 4);
        check.due("MARK", x.far(3, 4), 4);
        check.due("ANSWER goes", x.under(0, 0), 4);
        check.due("its NUMBER", x.under(0, 3), 4);
        check.due("its bits", x.under(0, 4), 0);
        check.due("ANSWER arrives", x.deliver(0, 0), 1);
        check.due("AWAITS no more", x.near(3, 7), 0);
        check.due("no BAR again", x.near(3, 8), 0);
        check.due("bundle behind it", x.bundle(3), 2);
        check.due("its NUMBER", x.frame(0, 0, 0), 4);
        x.expire(3);
        x.pass(9);
        check.due("BAR with an empty QUEUE", x.bundle(3), 0);
    }

    private static void expiresAsked() {
        BoundFrames x = new BoundFrames();
        check.due("expire without AIR", x.expire(0), UNKNOWN);
        x = Scene.withAir("9+0*9:8");
        check.due("expire -1", x.expire(-1), UNKNOWN);
        check.due("expire 4", x.expire(4), UNKNOWN);
        check.due("expire of none", x.expire(0), STATE);
        x.open(0, 0, 4, 1, 1);
        x.open(1, 0, 4, 1, 1);
        check.due("expire ASK", x.expire(0), 1);
        check.due("none", x.near(0, 0), 0);
        check.due("lost", x.count(1), 1);
        check.due("the other one", x.under(0, 1), 1);
        x.deliver(0, 0);
        check.due("expire YES", x.expire(1), 1);
        check.due("far end stays", x.far(1, 0), 1);
        check.due("under way", x.count(7), 0);
        x.open(1, 0, 4, 1, 1);
        x.lose(0);
        check.due("expire of what was lost", x.expire(1), 0);
        Scene.setUp(x, 1, 0, 4, 1, 1);
        check.due("OPEN, but it does not AWAIT", x.expire(1), STATE);
    }

    private static void expiresBundle() {
        BoundFrames x = Scene.withAir("9+0*9:8");
        Scene.setUp(x, 0, 0, 4, 2, 1);
        Scene.feed(x, 0, 1, 3, 1);
        x.bundle(0);
        check.due("expire", x.expire(0), 1);
        check.due("AWAITS no more", x.near(0, 7), 0);
        check.due("none is LOST yet", x.near(0, 9), 0);
        check.due("START", x.near(0, 3), 0);
        check.due("no BAR", x.near(0, 8), 0);
        x.feed(0, 9, 1);
        x.bundle(0);
        x.deliver(0, 0);
        check.due("expire of an ANSWER", x.expire(0), 1);
        check.due("three are LOST", x.near(0, 9), 3);
        check.due("likewise", x.count(6), 3);
        check.due("BAR", x.near(0, 8), 1);
        check.due("START", x.near(0, 3), 3);
        check.due("NEXT", x.near(0, 4), 4);
        check.due("not DONE", x.near(0, 6), 1);
        check.due("letters lost", x.count(1), 2);
        Scene.exchange(x, 0, 0);
        check.due("the fourth is DONE by the ANSWER of the BAR", x.near(0, 3), 4);
        check.due("LOST still", x.near(0, 9), 3);
    }

    private static void expiresBar() {
        BoundFrames x = Scene.withAir("9+0*9:8");
        Scene.setUp(x, 0, 0, 4, 1, 1);
        x.feed(0, 1, 1);
        x.bundle(0);
        x.expire(0);
        x.bundle(0);
        check.due("expire BAR", x.expire(0), 1);
        check.due("to be sent again", x.near(0, 8), 1);
        x.bundle(0);
        x.deliver(0, 0);
        check.due("expire its ANSWER", x.expire(0), 1);
        check.due("to be sent again", x.near(0, 8), 1);
        Scene.exchange(x, 0, 0);
        check.due("not again", x.near(0, 8), 0);
        x.close(0);
        x.deliver(0, 0);
        Scene.setUp(x, 0, 0, 4, 2, 1);
        x.feed(0, 2, 1);
        x.bundle(0);
        x.expire(0);
        check.due("no BAR for a BUNDLE that may be tried again", x.near(0, 8), 0);
        Scene.exchange(x, 0, 0);
        check.due("nothing to send", x.bundle(0), STATE);
        Scene.feed(x, 0, 3, 2, 1);
        x.bundle(0);
        x.expire(0);
        x.bundle(0);
        x.expire(0);
        Scene.exchange(x, 0, 0);
        x.feed(0, 5, 1);
        x.bundle(0);
        x.expire(0);
        check.due("nor for one behind a BAR that was answered", x.near(0, 8), 0);
        check.due("it goes again", x.bundle(0), 1);
    }

    private static void givesUpWithAnswer() {
        BoundFrames x = Scene.withAir("9+0*9:8");
        Scene.setUp(x, 0, 0, 8, 2, 1);
        Scene.feed(x, 0, 1, 4, 1);
        Scene.exchange(x, 0, 2 + 8);
        check.due("START", x.near(0, 3), 1);
        check.due("not DONE", x.near(0, 6), 2);
        Scene.exchange(x, 0, 1);
        check.due("one is LOST", x.near(0, 9), 1);
        check.due("BAR", x.near(0, 8), 1);
        check.due("START", x.near(0, 3), 4);
        check.due("FROM stays", x.far(0, 3), 1);
        check.due("HELD", x.far(0, 6), 2);
        Scene.exchange(x, 0, 0);
        check.due("FROM behind the BAR", x.far(0, 3), 4);
        check.due("RELEASED", x.released(0, 0), 4);
        check.due("RELEASED", x.released(0, 1), 3);
        check.due("RELEASED", x.released(0, 2), 1);
    }

    private static void answersByBits() {
        BoundFrames x = Scene.withAir("9+0*9:8");
        Scene.setUp(x, 0, 0, 8, 4, 1);
        Scene.feed(x, 0, 1, 8, 1);
        Scene.exchange(x, 0, 0x5A);
        for (int place = 0; place < 7; place++) {
            int number = 1 + place;
            check.due("NUMBER", x.given(0, place, 0), number);
            check.due("DONE", x.given(0, place, 4), (0x5A >> number & 1) == 1 ? 0 : 1);
        }
        check.due("given ends at NEXT", x.given(0, 7, 0), UNKNOWN);
    }

    private static void numbersComeRound() {
        BoundFrames x = Scene.withAir("9+0*9:8");
        Scene.setUp(x, 0, 0, 8, 4, 1);
        for (int i = 0; i < 8; i++) {
            Scene.feed(x, 0, 1 + 8 * i, 8, 1);
            Scene.exchange(x, 0, 0);
        }
        check.due("START came round", x.near(0, 3), 0);
        check.due("FROM came round", x.far(0, 3), 0);
        check.due("MARK is behind", x.far(0, 4), 56);
        x.feed(0, 500, 1);
        Scene.exchange(x, 0, 0);
        check.due("START", x.near(0, 3), 1);
        check.due("MARK", x.far(0, 4), 57);
        check.due("RELEASED", x.released(0, 0), 500);
        check.due("RELEASED in all", x.count(4), 65);
        check.due("DOUBLED", x.count(5), 0);
    }
}
