/** Promises 11 to 13: deliver, lose, pass, and what the far end does with what comes. */
public final class TransitTest {
    private static final Check check = new Check("TransitTest");
    private static final int NONE = BoundFrames.NONE;
    private static final int UNKNOWN = BoundFrames.UNKNOWN;
    private static final int OUTSIDE = BoundFrames.OUTSIDE;
    private static final int STATE = BoundFrames.STATE;

    public static void main(String[] args) {
        deliverRefuses();
        lettersLostAsleep();
        lettersSpoiled();
        damageOfSubFrames();
        ordersOfLetters();
        strictHolds();
        looseReleases();
        doubled();
        markMoves();
        barMovesMark();
        askEndsTheOldOne();
        loses();
        passes();
        hastyWaits();
        hastyWaitsAsleep();
        onlyHastyWaits();
        hastyOfEachClass();
        barMovesFromOn();
        aWholeWindowIsReleased();
        barWhereFromIs();
        check.end();
    }

    private static void deliverRefuses() {
        BoundFrames x = new BoundFrames();
        check.due("deliver without AIR", x.deliver(0, 0), UNKNOWN);
        check.due("lose without AIR", x.lose(0), UNKNOWN);
        x = Scene.withAir("9+0*9:8");
        check.due("deliver of none", x.deliver(0, 0), UNKNOWN);
        x.open(0, 0, 4, 1, 1);
        long before = x.digest();
        check.due("place -1", x.deliver(-1, 0), UNKNOWN);
        check.due("place 1", x.deliver(1, 0), UNKNOWN);
        check.due("UNKNOWN ahead of OUTSIDE", x.deliver(1, 256), UNKNOWN);
        check.due("damage -1", x.deliver(0, -1), OUTSIDE);
        check.due("damage 256", x.deliver(0, 256), OUTSIDE);
        check.due("lose -1", x.lose(-1), UNKNOWN);
        check.due("lose 1", x.lose(1), UNKNOWN);
        check.due("digest behind refusals", x.digest(), before);
    }

    private static void lettersLostAsleep() {
        BoundFrames x = Scene.withAir("2+2*9:8");
        Scene.setUp(x, 0, 0, 4, 1, 1);
        Scene.setUp(x, 1, 0, 4, 1, 1);
        Scene.setUp(x, 2, 0, 4, 1, 1);
        x.feed(0, 1, 1);
        x.feed(2, 1, 1);
        x.bundle(2);
        x.expire(2);
        x.bundle(0);
        x.close(1);
        x.bundle(2);
        x.open(3, 0, 4, 1, 1);
        x.pass(2);
        int lost = x.count(1);
        int[] sorts = {2, 5, 3, 0};
        for (int i = 0; i < 4; i++) {
            check.due("SORT", x.under(0, 0), sorts[i]);
            check.due("lost ASLEEP", x.deliver(0, 0), NONE);
        }
        check.due("letters lost", x.count(1), lost + 4);
        check.due("no ANSWER goes", x.count(7), 0);
        check.due("END did nothing", x.far(1, 0), 1);
        check.due("ASK did nothing", x.far(3, 0), 0);
        check.due("BAR did nothing", x.far(2, 3), 0);
        check.due("no SUB-FRAME was right", x.count(3), 0);
        check.due("it still AWAITS", x.near(0, 7), 1);
        x = Scene.withAir("1+9*9:8");
        x.open(0, 0, 4, 1, 1);
        x.deliver(0, 0);
        x.pass(5);
        check.due("YES comes ASLEEP", x.deliver(0, 0), 1);
        x.feed(0, 1, 1);
        x.pass(5);
        x.bundle(0);
        x.deliver(0, 0);
        x.pass(1);
        check.due("ANSWER comes ASLEEP", x.deliver(0, 0), 1);
        check.due("DONE", x.near(0, 3), 1);
    }

    private static void lettersSpoiled() {
        BoundFrames x = Scene.withAir("9+0*9:8");
        x.open(0, 0, 4, 1, 1);
        check.due("ASK spoiled", x.deliver(0, 1), NONE);
        check.due("no far end", x.far(0, 0), 0);
        x.expire(0);
        x.open(0, 0, 4, 1, 1);
        x.deliver(0, 0);
        check.due("YES spoiled", x.deliver(0, 128), NONE);
        check.due("still ASKED", x.near(0, 0), 1);
        x.expire(0);
        Scene.setUp(x, 0, 0, 4, 1, 1);
        x.feed(0, 1, 1);
        x.bundle(0);
        x.deliver(0, 0);
        check.due("ANSWER spoiled", x.deliver(0, 255), NONE);
        check.due("it AWAITS", x.near(0, 7), 1);
        x.expire(0);
        x.bundle(0);
        check.due("BAR spoiled", x.deliver(0, 2), NONE);
        x.expire(0);
        Scene.exchange(x, 0, 0);
        x.close(0);
        check.due("END spoiled", x.deliver(0, 4), NONE);
        check.due("far end stays", x.far(0, 0), 1);
        check.due("letters lost", x.count(1), 5);
    }

    private static void damageOfSubFrames() {
        for (int damage = 0; damage < 256; damage++) {
            BoundFrames x = Scene.withAir("9+0*9:8");
            Scene.setUp(x, 0, 0, 8, 4, 1);
            Scene.feed(x, 0, 250, 8, 3);
            x.bundle(0);
            int right = 8 - Integer.bitCount(damage);
            check.due("damage " + damage, x.deliver(0, damage), right);
            check.due("right ones", x.count(3), right);
            check.due("letters lost", x.count(1), 0);
            check.due("ANSWER", x.count(7), right > 0 ? 1 : 0);
            check.due("bits", x.far(0, 5), 255 - damage);
            check.due("FROM", x.far(0, 3), Integer.numberOfTrailingZeros(damage | 256));
        }
        BoundFrames x = Scene.withAir("9+0*9:8");
        Scene.setUp(x, 0, 0, 8, 4, 1);
        x.feed(0, 7, 7);
        x.bundle(0);
        check.due("damage behind the last one", x.deliver(0, 254), 1);
        check.due("VALUE is as it was", x.released(0, 0), 7);
    }

    private static void ordersOfLetters() {
        BoundFrames x = Scene.withAir("9+0*9:8");
        for (int of = 0; of < 4; of++) {
            x.open(of, 0, 1 + of, 1, 1);
        }
        check.due("deliver the second", x.deliver(1, 0), 1);
        int[] classes = {0, 2, 3, 1};
        int[] sorts = {0, 0, 0, 1};
        int[] windows = {1, 3, 4, 2};
        for (int place = 0; place < 4; place++) {
            check.due("CLASS", x.under(place, 1), classes[place]);
            check.due("SORT", x.under(place, 0), sorts[place]);
            check.due("WINDOW", x.under(place, 5), windows[place]);
        }
        check.due("lose the third", x.lose(2), 0);
        check.due("the last one moved up", x.under(2, 1), 1);
        check.due("no more", x.under(3, 1), UNKNOWN);
        check.due("deliver YES", x.deliver(2, 0), 1);
        check.due("OPEN", x.near(1, 0), 2);
        check.due("its WINDOW", x.near(1, 1), 2);
    }

    private static void strictHolds() {
        BoundFrames x = Scene.withAir("9+0*9:8");
        Scene.setUp(x, 0, 0, 6, 4, 1);
        Scene.feed(x, 0, 11, 6, 1);
        x.bundle(0);
        x.deliver(0, 1 + 8);
        int[] held = {NONE, 12, 13, NONE, 15, 16};
        for (int place = 0; place < 6; place++) {
            check.due("held " + place, x.held(0, place), held[place]);
        }
        check.due("nothing RELEASED", x.count(4), 0);
        x.deliver(0, 0);
        x.bundle(0);
        x.deliver(0, 2);
        check.due("FROM moved on", x.far(0, 3), 3);
        for (int i = 0; i < 3; i++) {
            check.due("RELEASED in order", x.released(0, i), 13 - i);
        }
        check.due("held 0", x.held(0, 0), NONE);
        check.due("held 1", x.held(0, 1), 15);
        check.due("held 2", x.held(0, 2), 16);
        check.due("held 3", x.held(0, 3), NONE);
        check.due("held 5", x.held(0, 5), NONE);
    }

    private static void looseReleases() {
        BoundFrames x = Scene.withAir("9+0*9:8");
        Scene.setUp(x, 0, 2, 6, 4, 1);
        Scene.feed(x, 0, 11, 5, 1);
        x.bundle(0);
        x.deliver(0, 1 + 8);
        check.due("RELEASED at once", x.count(4), 3);
        check.due("the latest", x.released(0, 0), 15);
        check.due("the first", x.released(0, 2), 12);
        int[] held = {NONE, 0, 0, NONE, 0, NONE};
        for (int place = 0; place < 6; place++) {
            check.due("HAD " + place, x.held(0, place), held[place]);
        }
        check.due("nothing is HELD", x.far(0, 6), 0);
        check.due("FROM", x.far(0, 3), 0);
        x.lose(0);
        x.expire(0);
        x.bundle(0);
        x.deliver(0, 1);
        check.due("DOUBLED", x.far(0, 8), 3);
        check.due("RELEASED", x.count(4), 4);
        check.due("the latest", x.released(0, 0), 14);
        x.deliver(0, 0);
        x.bundle(0);
        x.deliver(0, 0);
        check.due("FROM moved on", x.far(0, 3), 5);
        check.due("the latest", x.released(0, 0), 11);
        x.deliver(0, 0);
        x.close(0);
        x.deliver(0, 0);
        check.due("END releases nothing", x.count(4), 5);
    }

    private static void doubled() {
        BoundFrames x = Scene.withAir("9+0*9:8");
        Scene.setUp(x, 0, 0, 4, 4, 1);
        Scene.feed(x, 0, 1, 3, 1);
        x.bundle(0);
        x.deliver(0, 2);
        x.lose(0);
        x.expire(0);
        x.bundle(0);
        check.due("all right", x.deliver(0, 2), 2);
        check.due("one behind FROM, one HELD", x.far(0, 8), 2);
        check.due("likewise", x.count(5), 2);
        check.due("an ANSWER goes", x.under(0, 4), 5);
        x.deliver(0, 0);
        x.close(0);
        x.deliver(0, 0);
        Scene.setUp(x, 0, 0, 4, 4, 1);
        check.due("DOUBLED in this SESSION", x.far(0, 8), 0);
        check.due("in all", x.count(5), 2);
    }

    private static void markMoves() {
        BoundFrames x = Scene.withAir("9+0*9:8");
        Scene.setUp(x, 0, 0, 4, 4, 1);
        Scene.feed(x, 0, 1, 10, 1);
        Scene.exchange(x, 0, 0);
        check.due("MARK", x.far(0, 4), 0);
        check.due("bits", x.far(0, 5), 15);
        x.bundle(0);
        x.deliver(0, 2 + 4);
        check.due("MARK moves by what is ahead", x.far(0, 4), 4);
        check.due("bits", x.far(0, 5), 9);
        check.due("NUMBER of the ANSWER", x.under(0, 3), 4);
        x.deliver(0, 0);
        check.due("START", x.near(0, 3), 5);
        check.due("not DONE", x.near(0, 6), 2);
        x.bundle(0);
        x.deliver(0, 1 + 2);
        check.due("MARK", x.far(0, 4), 5);
        check.due("bits", x.far(0, 5), 12);
    }

    private static void barMovesMark() {
        BoundFrames x = Scene.withAir("9+0*9:8");
        Scene.setUp(x, 0, 0, 6, 2, 1);
        Scene.feed(x, 0, 1, 2, 1);
        x.bundle(0);
        x.expire(0);
        Scene.feed(x, 0, 3, 3, 1);
        x.bundle(0);
        x.deliver(0, 1 + 2 + 8);
        x.deliver(0, 0);
        check.due("START", x.near(0, 3), 3);
        check.due("LOST", x.near(0, 9), 2);
        check.due("FROM", x.far(0, 3), 0);
        x.bundle(0);
        x.deliver(0, 0);
        check.due("MARK", x.far(0, 4), 3);
        check.due("bits", x.far(0, 5), 2);
        check.due("FROM", x.far(0, 3), 3);
        check.due("RELEASED", x.released(0, 0), 3);
        check.due("HELD", x.far(0, 6), 1);
        check.due("held 1", x.held(0, 1), 5);
    }

    private static void askEndsTheOldOne() {
        BoundFrames x = Scene.withAir("9+0*9:8");
        Scene.setUp(x, 0, 1, 6, 4, 9);
        Scene.feed(x, 0, 1, 4, 1);
        x.bundle(0);
        x.deliver(0, 5);
        x.deliver(0, 0);
        x.pass(2);
        x.close(0);
        x.lose(0);
        x.open(0, 2, 3, 1, 1);
        check.due("HELD", x.far(0, 6), 2);
        x.deliver(0, 0);
        check.due("RELEASED as by END", x.count(4), 2);
        check.due("in order", x.released(0, 0), 4);
        check.due("in order", x.released(0, 1), 2);
        int[] far = {1, 2, 3, 0, 0, 0, 0, 0, 0};
        for (int what = 0; what < 9; what++) {
            check.due("far " + what, x.far(0, what), far[what]);
        }
        for (int place = 0; place < 3; place++) {
            check.due("held " + place, x.held(0, place), NONE);
        }
    }

    private static void loses() {
        BoundFrames x = Scene.withAir("9+0*9:8");
        x.open(0, 0, 4, 1, 1);
        check.due("lose ASK", x.lose(0), 0);
        x.expire(0);
        x.open(0, 0, 4, 1, 1);
        x.deliver(0, 0);
        check.due("lose YES", x.lose(0), 1);
        x.expire(0);
        Scene.setUp(x, 0, 0, 4, 1, 1);
        x.feed(0, 1, 1);
        x.feed(0, 2, 1);
        x.bundle(0);
        check.due("lose BUNDLE", x.lose(0), 2);
        x.expire(0);
        x.bundle(0);
        check.due("lose BAR", x.lose(0), 3);
        x.expire(0);
        x.bundle(0);
        x.deliver(0, 0);
        check.due("lose ANSWER", x.lose(0), 4);
        x.expire(0);
        x.close(0);
        check.due("lose END", x.lose(0), 5);
        check.due("letters lost", x.count(1), 6);
        check.due("letters sent", x.count(0), 10);
        check.due("under way", x.count(7), 0);
    }

    private static void passes() {
        BoundFrames x = new BoundFrames();
        check.due("OUTSIDE ahead of STATE", x.pass(0), OUTSIDE);
        check.due("no AIR", x.pass(1), STATE);
        x = Scene.withAir("3+2*1:1");
        check.due("pass -1", x.pass(-1), OUTSIDE);
        check.due("pass 61", x.pass(61), OUTSIDE);
        int time = 0;
        for (int i = 0; i < 20; i++) {
            int left = Math.max(0, 3 - time % 5);
            check.due("AWAKE at " + time, x.about(5), left > 0 ? 1 : 0);
            check.due("LEFT at " + time, x.about(6), left);
            time++;
            check.due("pass(1)", x.pass(1), time);
        }
        check.due("pass(60)", x.pass(60), 80);
    }

    private static void hastyOfEachClass() {
        BoundFrames x = Scene.withAir("9+0*9:8");
        for (int of = 0; of < 4; of++) {
            Scene.setUp(x, of, 1, 12, 4, 3 + of);
            Scene.feed(x, of, 1, 3, 1);
            x.bundle(of);
            x.deliver(0, 1 + (of & 1) * 2);
            x.deliver(0, 0);
        }
        x.pass(2);
        for (int of = 0; of < 4; of++) {
            check.due("WAITED of CLASS " + of, x.far(of, 7), 2);
        }
        for (int of = 0; of < 4; of++) {
            check.due("FROM ahead of HOLD", x.far(of, 3), 0);
            x.pass(1);
            check.due("FROM behind HOLD", x.far(of, 3), 3);
            check.due("the latest", x.released(of, 0), 3);
            check.due("the first", x.released(of, 1 - (of & 1)), 2 + (of & 1));
        }
    }

    /** A BAR brings FROM to where something is HELD, and on. */
    private static void barMovesFromOn() {
        BoundFrames x = Scene.withAir("9+0*9:8");
        Scene.setUp(x, 1, 0, 6, 2, 1);
        Scene.feed(x, 1, 1, 2, 1);
        x.bundle(1);
        x.expire(1);
        Scene.feed(x, 1, 3, 3, 1);
        x.bundle(1);
        x.deliver(0, 1 + 2 + 16);
        x.expire(1);
        check.due("START", x.near(1, 3), 2);
        x.bundle(1);
        check.due("NUMBER of the BAR", x.under(0, 3), 2);
        x.deliver(0, 0);
        check.due("FROM moved on", x.far(1, 3), 4);
        check.due("MARK did not", x.far(1, 4), 2);
        check.due("bits", x.under(0, 4), 3);
        check.due("RELEASED", x.released(1, 0), 4);
        x.deliver(0, 0);
        check.due("START behind the ANSWER of the BAR", x.near(1, 3), 4);
    }

    /** One NUMBER that was missing lets all that is HELD behind it go. */
    private static void aWholeWindowIsReleased() {
        BoundFrames x = Scene.withAir("9+0*9:8");
        Scene.setUp(x, 0, 0, 12, 4, 1);
        Scene.feed(x, 0, 1, 12, 1);
        Scene.exchange(x, 0, 1);
        Scene.exchange(x, 0, 1);
        check.due("HELD", x.far(0, 6), 11);
        Scene.exchange(x, 0, 0);
        check.due("FROM", x.far(0, 3), 12);
        check.due("RELEASED", x.count(4), 12);
        check.due("the latest", x.released(0, 0), 12);
    }

    private static BoundFrames waiting(String air, int kind, int hold) {
        BoundFrames x = Scene.withAir(air);
        Scene.setUp(x, 0, kind, 12, 4, hold);
        Scene.feed(x, 0, 1, 7, 1);
        x.bundle(0);
        x.deliver(0, 1 + 2 + 16);
        return x;
    }

    private static void hastyWaits() {
        BoundFrames x = waiting("9+0*9:8", 1, 4);
        x.pass(3);
        check.due("WAITED", x.far(0, 7), 3);
        check.due("FROM", x.far(0, 3), 0);
        x.pass(1);
        check.due("WAITED", x.far(0, 7), 0);
        check.due("FROM", x.far(0, 3), 4);
        check.due("RELEASED", x.count(4), 2);
        check.due("HELD", x.far(0, 6), 2);
        x.pass(3);
        x.pass(1);
        check.due("FROM", x.far(0, 3), 7);
        check.due("RELEASED", x.count(4), 4);
        x.pass(60);
        check.due("nothing HELD, WAITED", x.far(0, 7), 0);
        check.due("MARK stays", x.far(0, 4), 0);
        x = waiting("9+0*9:8", 1, 1);
        x.pass(1);
        check.due("HOLD 1", x.far(0, 3), 4);
        x.pass(1);
        check.due("HOLD 1", x.far(0, 3), 7);
        x = waiting("9+0*9:8", 1, 20);
        x.pass(40);
        check.due("HOLD 20", x.far(0, 3), 7);
        x = waiting("9+0*9:8", 1, 9);
        x.pass(2);
        x.deliver(0, 0);
        x.bundle(0);
        x.deliver(0, 2 + 4);
        check.due("WAITED is 0 when FROM moved", x.far(0, 7), 0);
        check.due("FROM", x.far(0, 3), 1);
    }

    private static void hastyWaitsAsleep() {
        BoundFrames x = waiting("1+9*9:8", 1, 4);
        x.pass(4);
        check.due("ASLEEP", x.about(5), 0);
        check.due("FROM moved ASLEEP", x.far(0, 3), 4);
    }

    private static void onlyHastyWaits() {
        for (int kind = 0; kind < 3; kind += 2) {
            BoundFrames x = waiting("9+0*9:8", kind, 1);
            x.pass(60);
            check.due("FROM of KIND " + kind, x.far(0, 3), 0);
            check.due("WAITED of KIND " + kind, x.far(0, 7), 0);
        }
    }

    /** A BAR with the NUMBER at which FROM is already does not move it: WAITED goes on. */
    private static void barWhereFromIs() {
        BoundFrames x = Scene.withAir("9+0*9:8");
        Scene.setUp(x, 0, 1, 12, 2, 20);
        x.feed(0, 1, 1);
        x.bundle(0);
        x.deliver(0, 0);
        x.expire(0);
        Scene.feed(x, 0, 2, 2, 1);
        x.bundle(0);
        x.deliver(0, 2);
        x.expire(0);
        x.pass(3);
        check.due("START", x.near(0, 3), 1);
        check.due("FROM", x.far(0, 3), 1);
        check.due("BAR", x.bundle(0), 0);
        x.deliver(0, 0);
        check.due("WAITED", x.far(0, 7), 3);
        check.due("MARK", x.far(0, 4), 1);
    }
}
