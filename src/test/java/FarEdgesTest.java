/** The edges of promises 11 to 13 and of 'FAR END': each method looks at one sentence. */
public final class FarEdgesTest {
    private static final Check check = new Check("FarEdgesTest");
    private static final int NONE = BoundFrames.NONE;

    public static void main(String[] args) {
        awakeAndAsleepByTurns();
        passOfOneAndOfSixty();
        theLongestTime();
        lostAsleepAtTheEdgesOfATurn();
        lettersToTheNearEndComeAsleep();
        anyDamageLosesAnotherLetter();
        damageBitsBehindTheLast();
        noneRightNoAnswer();
        damageDoesNotStay();
        deliverTakesThePlaceItIsTold();
        loseTakesThePlaceItIsTold();
        lettersAreUnderWayInOrder();
        markStaysWithinItsSpan();
        markMovesSoThatItIsTheLast();
        markOfWindowOne();
        bitsOfWhatIsDoubled();
        behindFromIsDoubled();
        heldIsDoubled();
        hadIsDoubled();
        doubledIsAnswered();
        theLastOfTheSpanIsHeld();
        fromMovesOnAsFarAsItCan();
        fromMovesOverAWholeSpan();
        looseOnesAreReleasedOutOfOrder();
        looseFromMovesOnOverWhatWasHad();
        barAheadOfMarkAndFrom();
        barReleasesWhatFallsOut();
        barForgetsWhatWasHad();
        barBehindFrom();
        barAtMarkAndFrom();
        barIsAnswered();
        endReleasesInOrder();
        endOfNothing();
        askEndsWhatIsThere();
        waitedAtItsHold();
        waitedFromNought();
        waitedIsNoughtWheneverFromMoved();
        waitedStaysWhenFromDoesNotMove();
        waitedBehindABar();
        onlyWhatHoldsWaits();
        holdInOnePass();
        check.end();
    }

    /** A SESSION of CLASS 0 and a BUNDLE of so many, VALUES from 11 on, that came with DAMAGE; its ANSWER is under way. */
    private static BoundFrames came(int kind, int window, int hold, int howMany, int damage) {
        BoundFrames x = Scene.openAt(0, kind, window, 4, hold);
        Scene.feed(x, 0, 11, howMany, 1);
        x.bundle(0);
        x.deliver(0, damage);
        return x;
    }

    private static void tellsHeld(String where, BoundFrames x, int... want) {
        for (int place = 0; place < want.length; place++) {
            check.due(where + ": held at " + place, x.held(0, place), want[place]);
        }
        check.due(where + ": behind the SPAN", x.held(0, want.length), BoundFrames.UNKNOWN);
    }

    private static void tellsReleased(String where, BoundFrames x, int... latestFirst) {
        for (int place = 0; place < latestFirst.length; place++) {
            check.due(where + ": released at " + place, x.released(0, place), latestFirst[place]);
        }
        check.due(where + ": no more", x.released(0, latestFirst.length), BoundFrames.UNKNOWN);
        check.due(where + ": RELEASED", x.count(4), latestFirst.length);
    }

    // ---- TIME

    /** "AWAKE, if the rest of TIME by ON and OFF together is less than ON"; "LEFT: ON less that rest". */
    private static void awakeAndAsleepByTurns() {
        for (int on = 1; on <= 9; on++) {
            for (int off = 0; off <= 9; off++) {
                BoundFrames x = Scene.withAir(on + "+" + off + "*1:1");
                for (int time = 0; time <= 2 * (on + off); time++) {
                    int rest = time % (on + off);
                    check.due("TIME", x.about(4), time);
                    check.due("AWAKE at " + time + " of " + on + "+" + off, x.about(5), rest < on ? 1 : 0);
                    check.due("LEFT at " + time + " of " + on + "+" + off, x.about(6), rest < on ? on - rest : 0);
                    check.due("pass", x.pass(1), time + 1);
                }
            }
        }
    }

    private static void passOfOneAndOfSixty() {
        for (int n = -2; n <= 62; n++) {
            BoundFrames x = Scene.withAir("3+4*1:1");
            boolean right = n >= 1 && n <= 60;
            check.due("pass " + n, x.pass(n), right ? n : BoundFrames.OUTSIDE);
            check.due("TIME behind pass " + n, x.about(4), right ? n : 0);
        }
    }

    /** As many calls as an object is used for. */
    private static void theLongestTime() {
        BoundFrames x = Scene.withAir("9+8*1:1");
        for (int i = 1; i <= 500; i++) {
            check.due("pass", x.pass(60), 60 * i);
        }
        int rest = 30000 % 17;
        check.due("AWAKE", x.about(5), rest < 9 ? 1 : 0);
        check.due("LEFT", x.about(6), rest < 9 ? 9 - rest : 0);
    }

    // ---- LETTERS

    private static void lostAsleepAtTheEdgesOfATurn() {
        for (int time = 0; time <= 8; time++) {
            BoundFrames x = Scene.withAir("2+2*9:8");
            Scene.setUp(x, 0, 0, 4, 1, 1);
            x.feed(0, 1, 1);
            x.bundle(0);
            x.open(1, 0, 4, 1, 1);
            if (time > 0) {
                x.pass(time);
            }
            boolean awake = time % 4 < 2;
            check.due("BUNDLE at " + time, x.deliver(0, 0), awake ? 1 : NONE);
            check.due("ASK at " + time, x.deliver(0, 0), awake ? 1 : NONE);
            check.due("lost at " + time, x.count(1), awake ? 0 : 2);
            check.due("came right at " + time, x.count(3), awake ? 1 : 0);
            check.due("under way at " + time, x.count(7), awake ? 2 : 0);
            check.due("far end at " + time, x.far(1, 0), awake ? 1 : 0);
        }
    }

    private static void lettersToTheNearEndComeAsleep() {
        BoundFrames x = Scene.withAir("1+1*9:8");
        x.open(0, 0, 4, 1, 1);
        x.deliver(0, 0);
        x.pass(1);
        check.due("YES", x.deliver(0, 0), 1);
        check.due("OPEN", x.near(0, 0), 2);
        x.pass(1);
        x.feed(0, 1, 1);
        x.bundle(0);
        x.deliver(0, 0);
        x.pass(1);
        check.due("ANSWER", x.deliver(0, 0), 1);
        check.due("AWAITS no more", x.near(0, 7), 0);
        check.due("nothing is lost", x.count(1), 0);
        x.close(0);
        check.due("END ASLEEP", x.deliver(0, 0), NONE);
        check.due("it is lost", x.count(1), 1);
        check.due("the far end stays", x.far(0, 0), 1);
    }

    /** "Any other LETTER is lost by a DAMAGE that is not 0": whichever bits it has. */
    private static void anyDamageLosesAnotherLetter() {
        for (int damage = 1; damage <= 255; damage++) {
            BoundFrames x = Scene.withAir("9+0*9:8");
            x.open(0, 0, 4, 1, 1);
            check.due("ASK, damage " + damage, x.deliver(0, damage), NONE);
            check.due("no far end", x.far(0, 0), 0);
            x.expire(0);
            x.open(0, 0, 4, 1, 1);
            x.deliver(0, 0);
            check.due("YES, damage " + damage, x.deliver(0, damage), NONE);
            check.due("still ASKED", x.near(0, 0), 1);
            x.expire(0);
            Scene.setUp(x, 0, 0, 4, 1, 1);
            x.feed(0, 1, 1);
            x.bundle(0);
            x.deliver(0, 0);
            check.due("ANSWER, damage " + damage, x.deliver(0, damage), NONE);
            check.due("it AWAITS", x.near(0, 7), 1);
            x.expire(0);
            x.bundle(0);
            check.due("BAR, damage " + damage, x.deliver(0, damage), NONE);
            check.due("MARK stays", x.far(0, 4), 0);
            x.expire(0);
            Scene.exchange(x, 0, 0);
            x.close(0);
            check.due("END, damage " + damage, x.deliver(0, damage), NONE);
            check.due("far end stays", x.far(0, 0), 1);
            check.due("lost", x.count(1), 5);
            check.due("under way", x.count(7), 0);
        }
    }

    /** "the SUB-FRAME K is damaged by bit K": bits for which there is none do nothing. */
    private static void damageBitsBehindTheLast() {
        for (int size = 1; size <= 8; size++) {
            int all = (1 << size) - 1;
            BoundFrames x = came(0, 8, 1, size, 255 & ~all);
            check.due("all of " + size + " came", x.count(3), size);
            x = came(0, 8, 1, size, 255 & ~all | 1 << size - 1);
            check.due("the last of " + size + " did not", x.count(3), size - 1);
            check.due("bits", x.far(0, 5), all >> 1);
            x = came(0, 8, 1, size, 1);
            check.due("the first of " + size + " did not", x.far(0, 5), all & ~1);
        }
    }

    /** A BUNDLE of which none is right: 0, no ANSWER, and it is not among the LETTERS that were lost. */
    private static void noneRightNoAnswer() {
        for (int size = 1; size <= 8; size++) {
            BoundFrames x = Scene.openAt(0, 0, 8, 4, 1);
            Scene.feed(x, 0, 11, size, 1);
            x.bundle(0);
            check.due("deliver", x.deliver(0, (1 << size) - 1), 0);
            check.due("came right", x.count(3), 0);
            check.due("lost", x.count(1), 0);
            check.due("sent", x.count(0), 3);
            check.due("under way", x.count(7), 0);
            check.due("it AWAITS", x.near(0, 7), 1);
            check.due("MARK's bits", x.far(0, 5), 0);
            check.due("HELD", x.far(0, 6), 0);
            check.due("one bit less", came(0, 8, 1, size, (1 << size) - 1 & ~(1 << size - 1)).count(7), 1);
        }
    }

    /** What was damaged on its way is whole at the near end: it goes again as it was fed. */
    private static void damageDoesNotStay() {
        for (int value = 1; value <= 999; value++) {
            BoundFrames x = Scene.openAt(0, 0, 8, 4, 1);
            x.feed(0, value, 1);
            x.bundle(0);
            check.due("VALUE " + value + " damaged", x.deliver(0, 1), 0);
            x.expire(0);
            x.bundle(0);
            check.due("VALUE", x.frame(0, 0, 1), value);
            check.due("it comes", x.deliver(0, 0), 1);
            check.due("as it was fed", x.released(0, 0), value);
        }
    }

    private static BoundFrames fourAsks() {
        BoundFrames x = Scene.withAir("9+0*9:8");
        for (int of = 0; of < 4; of++) {
            x.open(of, 0, 1 + of, 1, 1);
        }
        return x;
    }

    private static void deliverTakesThePlaceItIsTold() {
        for (int place = 0; place < 4; place++) {
            BoundFrames x = fourAsks();
            check.due("deliver " + place, x.deliver(place, 0), 1);
            for (int of = 0; of < 4; of++) {
                check.due("far end of " + of, x.far(of, 0), of == place ? 1 : 0);
            }
            check.due("YES is the last one", x.under(3, 0), 1);
            check.due("its CLASS", x.under(3, 1), place);
        }
    }

    private static void loseTakesThePlaceItIsTold() {
        for (int place = 0; place < 4; place++) {
            BoundFrames x = fourAsks();
            check.due("lose " + place, x.lose(place), 0);
            check.due("lost", x.count(1), 1);
            check.due("under way", x.count(7), 3);
            for (int at = 0; at < 3; at++) {
                check.due("CLASS at " + at, x.under(at, 1), at < place ? at : at + 1);
            }
            check.due("no fourth", x.lose(3), BoundFrames.UNKNOWN);
        }
    }

    private static void lettersAreUnderWayInOrder() {
        BoundFrames x = fourAsks();
        for (int i = 0; i < 4; i++) {
            check.due("CLASS of the first", x.under(0, 1), i);
            x.deliver(0, 0);
            check.due("its answer is the last", x.under(3, 1), i);
            check.due("a YES", x.under(3, 0), 1);
        }
        for (int of = 3; of >= 0; of--) {
            check.due("the last one comes first", x.deliver(of, 0), 1);
            check.due("OPEN", x.near(of, 0), 2);
        }
        int[] order = {2, 0, 3, 1};
        for (int of : order) {
            x.feed(of, 1, 1);
            x.bundle(of);
        }
        for (int place = 0; place < 4; place++) {
            check.due("in the order in which they were sent", x.under(place, 1), order[place]);
        }
    }

    // ---- MARK

    private static void markStaysWithinItsSpan() {
        for (int window = 1; window <= 8; window++) {
            BoundFrames x = came(0, window, 1, window, (1 << window - 1) - 1);
            check.due("MARK of WINDOW " + window, x.far(0, 4), 0);
            check.due("bits of WINDOW " + window, x.far(0, 5), 1 << window - 1);
        }
    }

    /** One that is WINDOW or more AHEAD: from one step to WINDOW steps, and what falls out is forgotten. */
    private static void markMovesSoThatItIsTheLast() {
        for (int window = 1; window <= 8; window++) {
            for (int k = 0; k < window; k++) {
                BoundFrames x = Scene.openAt(window, 0, window, 4, 1);
                check.due("bits ahead of it", x.far(0, 5), (1 << window) - 1);
                Scene.feed(x, 0, 1, window, 1);
                x.bundle(0);
                x.deliver(0, 255 & ~(1 << k));
                check.due("MARK", x.far(0, 4), k + 1);
                int stay = (1 << window - 1 - k) - 1;
                check.due("bits", x.far(0, 5), stay | 1 << window - 1);
                check.due("NUMBER of the ANSWER", x.under(0, 3), k + 1);
                check.due("its bits", x.under(0, 4), stay | 1 << window - 1);
                x.deliver(0, 0);
                check.due("only that one is DONE", x.near(0, 6), window - 1);
            }
        }
    }

    private static void markOfWindowOne() {
        BoundFrames x = Scene.openAt(0, 0, 1, 4, 1);
        for (int i = 0; i < 5; i++) {
            x.feed(0, 1 + i, 1);
            check.due("bundle", x.bundle(0), 1);
            x.deliver(0, 0);
            check.due("MARK", x.far(0, 4), i);
            check.due("bits", x.far(0, 5), 1);
            check.due("FROM", x.far(0, 3), i + 1);
            check.due("nothing is HELD", x.held(0, 0), NONE);
            x.deliver(0, 0);
        }
    }

    private static void bitsOfWhatIsDoubled() {
        BoundFrames x = came(0, 8, 1, 3, 0);
        x.expire(0);
        x.bundle(0);
        x.deliver(0, 2);
        check.due("bits stay", x.far(0, 5), 7);
        check.due("DOUBLED", x.far(0, 8), 2);
    }

    // ---- DOUBLED

    /** "if it is BEHIND FROM, it is DOUBLED (nothing else happens)": from 1 to WINDOW behind it. */
    private static void behindFromIsDoubled() {
        for (int size = 1; size <= 8; size++) {
            BoundFrames x = came(0, 8, 1, size, 0);
            x.expire(0);
            x.bundle(0);
            check.due("all are right", x.deliver(0, 0), size);
            check.due("DOUBLED", x.far(0, 8), size);
            check.due("likewise in all", x.count(5), size);
            check.due("FROM", x.far(0, 3), size);
            check.due("RELEASED once", x.count(4), size);
            tellsHeld("nothing", x, NONE, NONE, NONE, NONE, NONE, NONE, NONE, NONE);
        }
    }

    private static void heldIsDoubled() {
        BoundFrames x = came(0, 4, 1, 4, 1);
        x.expire(0);
        x.bundle(0);
        x.deliver(0, 1);
        check.due("DOUBLED", x.far(0, 8), 3);
        check.due("FROM", x.far(0, 3), 0);
        tellsHeld("once", x, NONE, 12, 13, 14);
        tellsReleased("nothing", x);
    }

    private static void hadIsDoubled() {
        BoundFrames x = came(2, 4, 1, 4, 1);
        x.expire(0);
        x.bundle(0);
        x.deliver(0, 1);
        check.due("DOUBLED", x.far(0, 8), 3);
        tellsHeld("HAD", x, NONE, 0, 0, 0);
        tellsReleased("once", x, 14, 13, 12);
    }

    private static void doubledIsAnswered() {
        BoundFrames x = came(0, 4, 1, 2, 0);
        x.lose(0);
        x.expire(0);
        x.bundle(0);
        x.deliver(0, 1);
        check.due("an ANSWER goes", x.under(0, 0), 4);
        check.due("its bits", x.under(0, 4), 3);
        x.deliver(0, 0);
        check.due("both are DONE", x.near(0, 3), 2);
    }

    // ---- what comes

    private static void theLastOfTheSpanIsHeld() {
        for (int window = 2; window <= 8; window++) {
            BoundFrames x = came(0, window, 1, window, (1 << window - 1) - 1);
            check.due("HELD", x.held(0, window - 1), 10 + window);
            check.due("one ahead of it", x.held(0, window - 2), NONE);
            check.due("for how many", x.far(0, 6), 1);
            check.due("FROM", x.far(0, 3), 0);
        }
    }

    private static void fromMovesOnAsFarAsItCan() {
        for (int damage = 0; damage < 256; damage++) {
            BoundFrames x = came(0, 8, 1, 8, damage);
            int from = Integer.numberOfTrailingZeros(damage | 256);
            check.due("FROM, damage " + damage, x.far(0, 3), from);
            check.due("RELEASED", x.count(4), from);
            check.due("HELD", x.far(0, 6), 8 - Integer.bitCount(damage) - from);
            for (int place = 0; place < 8; place++) {
                int number = from + place;
                boolean held = number < 8 && (damage >> number & 1) == 0;
                check.due("held at " + place, x.held(0, place), held ? 11 + number : NONE);
            }
        }
    }

    /** All of the SPAN but its first one is HELD or was HAD; then that one comes. */
    private static void fromMovesOverAWholeSpan() {
        for (int kind = 0; kind < 3; kind++) {
            for (int window = 1; window <= 12; window++) {
                BoundFrames x = Scene.openAt(0, kind, window, 4, 20);
                Scene.feed(x, 0, 101, window, 1);
                Scene.exchange(x, 0, 1);
                if (window > 8 || window == 1) {
                    x.expire(0);
                    Scene.exchange(x, 0, 1);
                }
                check.due("FROM", x.far(0, 3), 0);
                x.expire(0);
                x.bundle(0);
                x.deliver(0, 0);
                check.due("FROM over WINDOW " + window, x.far(0, 3), window);
                check.due("HELD", x.far(0, 6), 0);
                check.due("RELEASED", x.count(4), window);
                check.due("the latest", x.released(0, 0), kind == 2 ? 101 : 100 + window);
                check.due("DOUBLED", x.count(5), 0);
            }
        }
    }

    private static void looseOnesAreReleasedOutOfOrder() {
        BoundFrames x = came(2, 4, 1, 4, 1 + 4);
        tellsReleased("at once", x, 14, 12);
        tellsHeld("HAD", x, NONE, 0, NONE, 0);
        check.due("nothing is HELD", x.far(0, 6), 0);
        x.deliver(0, 0);
        x.bundle(0);
        x.deliver(0, 1);
        tellsReleased("then the third", x, 13, 14, 12);
        tellsHeld("HAD", x, NONE, 0, 0, 0);
        x.deliver(0, 0);
        x.bundle(0);
        x.deliver(0, 0);
        tellsReleased("then the first", x, 11, 13, 14, 12);
        tellsHeld("all are behind", x, NONE, NONE, NONE, NONE);
        check.due("FROM", x.far(0, 3), 4);
    }

    private static void looseFromMovesOnOverWhatWasHad() {
        for (int damage = 0; damage < 256; damage++) {
            BoundFrames x = came(2, 8, 1, 8, damage);
            int from = Integer.numberOfTrailingZeros(damage | 256);
            check.due("FROM, damage " + damage, x.far(0, 3), from);
            check.due("RELEASED", x.count(4), 8 - Integer.bitCount(damage));
            for (int place = 0; place < 8; place++) {
                int number = from + place;
                boolean had = number < 8 && (damage >> number & 1) == 0;
                check.due("HAD at " + place, x.held(0, place), had ? 0 : NONE);
            }
        }
    }

    // ---- BAR

    /** A BAR is under way behind four that never came, and four that came with DAMAGE and were not answered. */
    private static BoundFrames bar(int kind, int damage) {
        BoundFrames x = Scene.openAt(0, kind, 8, 2, 20);
        Scene.feed(x, 0, 1, 4, 1);
        x.bundle(0);
        x.expire(0);
        Scene.feed(x, 0, 5, 4, 1);
        x.bundle(0);
        x.deliver(0, damage);
        x.expire(0);
        x.bundle(0);
        return x;
    }

    private static void barAheadOfMarkAndFrom() {
        BoundFrames x = bar(0, 255);
        check.due("NUMBER of the BAR", x.under(0, 3), 4);
        check.due("MARK ahead of it", x.far(0, 4), 0);
        check.due("deliver", x.deliver(0, 0), 1);
        check.due("MARK", x.far(0, 4), 4);
        check.due("FROM", x.far(0, 3), 4);
        check.due("bits", x.far(0, 5), 0);
        tellsReleased("nothing", x);
    }

    /** "what is HELD for NUMBERS that fall out is RELEASED, in order), and on": over what is HELD from there. */
    private static void barReleasesWhatFallsOut() {
        BoundFrames x = bar(0, 1 + 4 + 32);
        tellsHeld("ahead of it", x, NONE, 2, NONE, 4, 5, NONE, 7, 8);
        check.due("bits ahead of it", x.far(0, 5), 2 + 8 + 16 + 64 + 128);
        x.deliver(0, 0);
        tellsReleased("in order", x, 5, 4, 2);
        check.due("FROM", x.far(0, 3), 5);
        check.due("MARK", x.far(0, 4), 4);
        check.due("bits", x.far(0, 5), 1 + 4 + 8);
        tellsHeld("behind it", x, NONE, 7, 8, NONE, NONE, NONE, NONE, NONE);
        x.deliver(0, 0);
        check.due("not DONE", x.near(0, 6), 1);
        check.due("START", x.near(0, 3), 5);
    }

    private static void barForgetsWhatWasHad() {
        BoundFrames x = bar(2, 1 + 4 + 16 + 32);
        tellsHeld("ahead of it", x, NONE, 0, NONE, 0, NONE, NONE, 0, 0);
        tellsReleased("ahead of it", x, 8, 7, 4, 2);
        x.deliver(0, 0);
        tellsReleased("nothing more", x, 8, 7, 4, 2);
        check.due("FROM", x.far(0, 3), 4);
        tellsHeld("behind it", x, NONE, NONE, 0, 0, NONE, NONE, NONE, NONE);
    }

    /** All came, but no ANSWER did: FROM is ahead of the NUMBER of the BAR, and stays; MARK moves. */
    private static void barBehindFrom() {
        BoundFrames x = bar(0, 0);
        check.due("FROM", x.far(0, 3), 8);
        check.due("NUMBER of the BAR", x.under(0, 3), 4);
        x.deliver(0, 0);
        check.due("FROM stays", x.far(0, 3), 8);
        check.due("MARK", x.far(0, 4), 4);
        check.due("bits", x.far(0, 5), 15);
        check.due("DOUBLED", x.far(0, 8), 0);
        x.deliver(0, 0);
        check.due("START", x.near(0, 3), 8);
    }

    /** A BAR that comes once more finds MARK and FROM where it would bring them. */
    private static void barAtMarkAndFrom() {
        BoundFrames x = bar(0, 1 + 2 + 4 + 8 + 16);
        x.deliver(0, 0);
        x.expire(0);
        x.bundle(0);
        check.due("NUMBER", x.under(0, 3), 4);
        String told = farEnd(x);
        check.due("deliver", x.deliver(0, 0), 1);
        check.holds("the far end is as it was", told.equals(farEnd(x)));
        check.due("an ANSWER goes", x.under(0, 0), 4);
    }

    /** What is told of the far end alone. */
    private static String farEnd(BoundFrames x) {
        return Told.of(x).replaceAll("(near|given|under|count|digest)[^\n]*", "");
    }

    private static void barIsAnswered() {
        BoundFrames x = bar(0, 1 + 2 + 4 + 8 + 32);
        x.deliver(0, 0);
        check.due("one LETTER is under way", x.count(7), 1);
        check.due("ANSWER", x.under(0, 0), 4);
        check.due("its NUMBER is MARK", x.under(0, 3), x.far(0, 4));
        check.due("its bits", x.under(0, 4), x.far(0, 5));
        check.due("bits", x.far(0, 5), 1 + 4 + 8);
        x.deliver(0, 0);
        check.due("AWAITS no more", x.near(0, 7), 0);
        check.due("no BAR is to be sent", x.near(0, 8), 0);
    }

    // ---- END, ASK

    private static void endReleasesInOrder() {
        for (int damage = 0; damage < 255; damage++) {
            BoundFrames x = came(0, 8, 1, 8, damage);
            x.deliver(0, 0);
            x.close(0);
            check.due("the far end is there until END comes", x.far(0, 0), 1);
            x.deliver(0, 0);
            check.due("no SESSION any more", x.far(0, 0), 0);
            int place = 0;
            for (int number = 7; number >= 0; number--) {
                if ((damage >> number & 1) == 0) {
                    check.due("in order, damage " + damage, x.released(0, place), 11 + number);
                    place++;
                }
            }
            check.due("no more", x.released(0, place), BoundFrames.UNKNOWN);
        }
    }

    private static void endOfNothing() {
        for (int kind = 0; kind < 3; kind++) {
            BoundFrames x = Scene.openAt(0, kind, 12, 1, 1);
            x.close(0);
            check.due("deliver END", x.deliver(0, 0), 1);
            check.due("no SESSION any more", x.far(0, 0), 0);
            check.due("no answer goes", x.count(7), 0);
            tellsReleased("nothing", x);
        }
        BoundFrames x = came(2, 4, 1, 4, 1);
        x.deliver(0, 0);
        x.close(0);
        x.deliver(0, 0);
        tellsReleased("what was HAD is not RELEASED again", x, 14, 13, 12);
    }

    /** "a SESSION that is there is ENDED as by END; a new one is there": another KIND and WINDOW, at 0. */
    private static void askEndsWhatIsThere() {
        for (int kind = 0; kind < 3; kind++) {
            BoundFrames x = came(1, 12, 3, 8, 1 + 8);
            x.expire(0);
            x.bundle(0);
            x.deliver(0, 1 + 8);
            x.expire(0);
            x.pass(2);
            x.close(0);
            x.lose(0);
            check.due("WAITED of the old one", x.far(0, 7), 2);
            check.due("DOUBLED of the old one", x.far(0, 8), 6);
            x.open(0, kind, 3, 1, 2);
            check.due("the old one is there until ASK comes", x.far(0, 6), 6);
            x.deliver(0, 0);
            tellsReleased("in order", x, 18, 17, 16, 15, 13, 12);
            int[] far = {1, kind, 3, 0, 0, 0, 0, 0, 0};
            for (int what = 0; what < 9; what++) {
                check.due("far " + what, x.far(0, what), far[what]);
            }
            tellsHeld("nothing", x, NONE, NONE, NONE);
        }
        BoundFrames x = came(2, 12, 3, 8, 1);
        x.deliver(0, 0);
        x.close(0);
        x.lose(0);
        x.open(0, 2, 12, 1, 1);
        x.deliver(0, 0);
        tellsHeld("what was HAD is gone", x, NONE, NONE, NONE, NONE, NONE, NONE, NONE, NONE, NONE, NONE, NONE, NONE);
    }

    // ---- WAITED

    private static void waitedAtItsHold() {
        for (int hold = 1; hold <= 20; hold++) {
            BoundFrames x = came(1, 8, hold, 4, 1 + 4);
            for (int tick = 1; tick < hold; tick++) {
                x.pass(1);
                check.due("WAITED of HOLD " + hold, x.far(0, 7), tick);
                check.due("FROM", x.far(0, 3), 0);
            }
            x.pass(1);
            check.due("WAITED at HOLD " + hold, x.far(0, 7), 0);
            check.due("FROM to the first that is HELD, and on", x.far(0, 3), 2);
            check.due("HELD", x.far(0, 6), 1);
            tellsReleased("it alone", x, 12);
        }
    }

    private static void waitedFromNought() {
        BoundFrames x = came(1, 8, 3, 6, 1 + 4 + 16);
        int[] from = {0, 0, 2, 2, 2, 4, 4, 4, 6, 6, 6, 6};
        int[] waited = {1, 2, 0, 1, 2, 0, 1, 2, 0, 0, 0, 0};
        for (int tick = 0; tick < from.length; tick++) {
            x.pass(1);
            check.due("FROM behind tick " + tick, x.far(0, 3), from[tick]);
            check.due("WAITED behind tick " + tick, x.far(0, 7), waited[tick]);
        }
        tellsReleased("in order", x, 16, 14, 12);
    }

    private static void waitedIsNoughtWheneverFromMoved() {
        BoundFrames x = came(1, 8, 20, 6, 1 + 4);
        x.deliver(0, 0);
        x.pass(7);
        check.due("WAITED", x.far(0, 7), 7);
        x.bundle(0);
        x.deliver(0, 2);
        check.due("FROM moved", x.far(0, 3), 2);
        check.due("WAITED is 0", x.far(0, 7), 0);
        check.due("something is HELD still", x.far(0, 6), 3);
        x.pass(19);
        check.due("WAITED counts on from there", x.far(0, 7), 19);
        x.pass(1);
        check.due("HOLD", x.far(0, 3), 6);
    }

    /** Neither by what is HELD more, nor by what is DOUBLED. */
    private static void waitedStaysWhenFromDoesNotMove() {
        BoundFrames x = came(1, 8, 20, 4, 1 + 4);
        x.deliver(0, 0);
        x.pass(7);
        x.bundle(0);
        x.deliver(0, 1);
        check.due("one more is HELD", x.far(0, 6), 3);
        check.due("WAITED", x.far(0, 7), 7);
        x.expire(0);
        x.bundle(0);
        x.deliver(0, 1);
        check.due("DOUBLED", x.far(0, 8), 1);
        check.due("WAITED", x.far(0, 7), 7);
    }

    private static void waitedBehindABar() {
        BoundFrames x = bar(1, 1 + 2 + 4 + 8 + 32);
        x.pass(7);
        check.due("WAITED", x.far(0, 7), 7);
        x.deliver(0, 0);
        check.due("FROM moved", x.far(0, 3), 5);
        check.due("WAITED is 0", x.far(0, 7), 0);
        check.due("HELD", x.far(0, 6), 2);
        x.pass(3);
        x.expire(0);
        x.bundle(0);
        check.due("a BAR that is BEHIND FROM", x.under(0, 3), 4);
        x.deliver(0, 0);
        check.due("WAITED stays", x.far(0, 7), 3);
        x = bar(1, 1 + 2 + 4 + 8 + 16);
        x.deliver(0, 0);
        x.pass(5);
        x.expire(0);
        x.bundle(0);
        x.deliver(0, 0);
        check.due("a BAR where FROM is: it did not move", x.far(0, 3), 4);
        check.due("WAITED stays", x.far(0, 7), 5);
    }

    private static void onlyWhatHoldsWaits() {
        BoundFrames x = came(1, 8, 1, 4, 0);
        x.pass(60);
        check.due("HASTY, nothing HELD", x.far(0, 7), 0);
        check.due("FROM", x.far(0, 3), 4);
        for (int kind = 0; kind <= 2; kind += 2) {
            x = came(kind, 8, 1, 4, 1);
            x.pass(60);
            check.due("WAITED of KIND " + kind, x.far(0, 7), 0);
            check.due("FROM of KIND " + kind, x.far(0, 3), 0);
        }
    }

    /** Each TICK of a pass counts, AWAKE or ASLEEP; each SESSION waits by itself. */
    private static void holdInOnePass() {
        for (int hold = 1; hold <= 20; hold++) {
            BoundFrames x = Scene.withAir("1+9*9:8");
            Scene.setUp(x, 3, 1, 8, 4, hold);
            Scene.setUp(x, 0, 1, 8, 4, 20);
            Scene.feed(x, 3, 1, 6, 1);
            Scene.feed(x, 0, 1, 6, 1);
            x.bundle(3);
            x.bundle(0);
            x.deliver(0, 1 + 4 + 16);
            x.deliver(0, 1);
            x.pass(19);
            check.due("FROM of HOLD " + hold, x.far(3, 3), 2 * Math.min(3, 19 / hold));
            check.due("WAITED of HOLD " + hold, x.far(3, 7), 19 / hold < 3 ? 19 % hold : 0);
            check.due("FROM of HOLD 20", x.far(0, 3), 0);
            check.due("WAITED of HOLD 20", x.far(0, 7), 19);
        }
    }
}
