/** The edges of promises 6 to 10 and of 'NEAR END': each method looks at one sentence. */
public final class NearEdgesTest {
    private static final Check check = new Check("NearEdgesTest");
    private static final int STATE = BoundFrames.STATE;

    public static void main(String[] args) {
        everyArgumentOfOpenAtItsLimits();
        windowIsAsAskedButTwelveAtMost();
        openTellsHowManyAreUnderWay();
        openBehindExpire();
        aSessionBeginsAtNought();
        nothingOfAnEarlierSessionStays();
        closeOfNothingAndOfTheMost();
        closeCountsWhatIsNotDoneAlone();
        closeSendsEndAndNoBar();
        closeTakesTheQueueAway();
        valuesAndLengthsAtTheirLimits();
        queueHasTwentyFour();
        queueIsFedInEveryState();
        queueKeepsItsOrder();
        boundEndsABundle();
        lengthsEndABundle();
        oneThatIsJustAsLongAsIsLeft();
        leftIsFromThisTickOn();
        theSpanOfStartEndsABundle();
        theSpanEndsWhatWasNotGivenYet();
        theFirstThatDoesNotFitEnds();
        anOldOneThatDoesNotFitEnds();
        whatIsDoneTakesNoRoom();
        lengthsOfOldAndNewTogether();
        bundleAtTheEdgesOfATurn();
        aBarGoesAheadOfABundle();
        aBarNeedsNoRoom();
        triedAsOftenAsTriesTells();
        triesWithAnAnswer();
        startMovesToNextOrToTheFirstNotDone();
        expireTellsHowManyWereLost();
        expireLosesItsOwnClassAlone();
        aBarIsSentAgainUntilItIsAnswered();
        aBarThatWasAnsweredIsNotSentAgain();
        answerBitsAtBothEndsOfTheSpan();
        answerWithoutWhatIsAWindowAhead();
        check.end();
    }

    // ---- open

    private static void everyArgumentOfOpenAtItsLimits() {
        int[][] right = {{0, 0, 1, 1, 1}, {3, 2, 15, 4, 20}, {0, 2, 1, 1, 1}, {0, 0, 15, 1, 1}, {0, 0, 1, 4, 1}, {0, 0, 1, 1, 20}};
        for (int[] r : right) {
            BoundFrames x = Scene.withAir("1+0*1:1");
            check.due("open", x.open(r[0], r[1], r[2], r[3], r[4]), 1);
            check.due("WINDOW of ASK", x.under(0, 5), r[2]);
            x.deliver(0, 0);
            x.deliver(0, 0);
            check.due("KIND", x.far(r[0], 1), r[1]);
            check.due("TRIES", x.near(r[0], 2), r[3]);
        }
    }

    private static void windowIsAsAskedButTwelveAtMost() {
        for (int window = 1; window <= 15; window++) {
            BoundFrames x = Scene.withAir("1+0*1:1");
            x.open(0, 0, window, 1, 1);
            check.due("ASK", x.under(0, 5), window);
            x.deliver(0, 0);
            check.due("YES", x.under(0, 5), Math.min(12, window));
            check.due("far end", x.far(0, 2), Math.min(12, window));
            x.deliver(0, 0);
            check.due("near end", x.near(0, 1), Math.min(12, window));
        }
    }

    private static void openTellsHowManyAreUnderWay() {
        BoundFrames x = Scene.withAir("1+0*1:1");
        for (int of = 3; of >= 0; of--) {
            check.due("open " + of, x.open(of, 0, 1, 1, 1), 4 - of);
        }
        check.due("under way", x.count(7), 4);
    }

    /** What is ASKED is none behind expire, and its LETTERS are lost: it can be asked for at once. */
    private static void openBehindExpire() {
        BoundFrames x = Scene.withAir("1+0*1:1");
        for (int i = 0; i < 3; i++) {
            check.due("open", x.open(0, i, 5, 1, 1), 1);
            if (i > 0) {
                x.deliver(0, 0);
            }
            check.due("expire", x.expire(0), 1);
        }
        check.due("far end of the last ASK that came", x.far(0, 1), 2);
        check.due("letters lost", x.count(1), 3);
    }

    /** "it is OPEN, with that WINDOW, START and NEXT 0, nothing in the QUEUE": also behind another SESSION. */
    private static void aSessionBeginsAtNought() {
        BoundFrames x = Scene.openAt(5, 0, 6, 1, 1);
        Scene.feed(x, 0, 1, 9, 1);
        x.bundle(0);
        x.expire(0);
        x.close(0);
        x.deliver(0, 0);
        Scene.setUp(x, 0, 2, 9, 3, 7);
        int[] near = {2, 9, 3, 0, 0, 0, 0, 0, 0, 0};
        for (int what = 0; what < 10; what++) {
            check.due("near " + what, x.near(0, what), near[what]);
        }
        check.due("nothing is given", x.given(0, 0, 0), BoundFrames.UNKNOWN);
        check.due("nothing to send", x.bundle(0), STATE);
        check.due("LOST in all", x.count(6), 6);
    }

    /** TRIED and DONE of NUMBERS that the earlier SESSION had given: the new one gives them anew. */
    private static void nothingOfAnEarlierSessionStays() {
        for (int start = 0; start <= 16; start++) {
            BoundFrames x = Scene.openAt(start, 0, 8, 4, 1);
            Scene.feed(x, 0, 101, 8, 1);
            for (int tried = 0; tried < 3; tried++) {
                x.bundle(0);
                x.expire(0);
            }
            check.due("close", x.close(0), 8);
            x.deliver(0, 0);
            Scene.setUp(x, 0, 0, 8, 1, 1);
            for (int number = 0; number < 20; number++) {
                x.feed(0, 1 + number, 1);
                x.bundle(0);
                check.due("TRIED", x.given(0, 0, 3), 1);
                check.due("DONE", x.given(0, 0, 4), 0);
                x.deliver(0, 0);
                x.deliver(0, 0);
                check.due("START", x.near(0, 3), number + 1);
                check.due("LOST", x.near(0, 9), 0);
                check.due("BAR", x.near(0, 8), 0);
            }
        }
    }

    // ---- close

    private static void closeOfNothingAndOfTheMost() {
        BoundFrames x = Scene.openAt(0, 0, 12, 4, 1);
        check.due("close of nothing", x.close(0), 0);
        x = Scene.openAt(0, 0, 12, 4, 1);
        Scene.feed(x, 0, 1, 24, 1);
        x.bundle(0);
        Scene.feed(x, 0, 25, 8, 1);
        x.expire(0);
        check.due("QUEUE", x.near(0, 5), 24);
        check.due("not DONE", x.near(0, 6), 8);
        check.due("close of the most", x.close(0), 32);
    }

    private static void closeCountsWhatIsNotDoneAlone() {
        for (int damage = 0; damage < 256; damage++) {
            BoundFrames x = Scene.openAt(0, 0, 8, 4, 1);
            Scene.feed(x, 0, 1, 9, 1);
            x.bundle(0);
            x.deliver(0, damage);
            x.deliver(0, 0);
            if (damage == 255) {
                x.expire(0);
            }
            check.due("close behind damage " + damage, x.close(0), Integer.bitCount(damage) + 1);
        }
    }

    private static void closeSendsEndAndNoBar() {
        BoundFrames x = Scene.openAt(0, 0, 8, 1, 1);
        x.feed(0, 1, 1);
        x.bundle(0);
        x.expire(0);
        check.due("a BAR is to be sent", x.near(0, 8), 1);
        int sent = x.count(0);
        check.due("close", x.close(0), 0);
        check.due("one LETTER goes", x.count(0), sent + 1);
        check.due("END", x.under(0, 0), 5);
        check.due("near end", x.near(0, 0), 0);
        check.due("near end tells no more", x.near(0, 8), BoundFrames.NONE);
    }

    private static void closeTakesTheQueueAway() {
        BoundFrames x = Scene.openAt(0, 0, 8, 4, 1);
        Scene.feed(x, 0, 1, 24, 1);
        x.close(0);
        x.deliver(0, 0);
        Scene.setUp(x, 0, 0, 8, 4, 1);
        check.due("QUEUE", x.near(0, 5), 0);
        check.due("the first feed", x.feed(0, 77, 1), 1);
        check.due("bundle", x.bundle(0), 1);
        check.due("its VALUE", x.frame(0, 0, 1), 77);
    }

    // ---- feed

    private static void valuesAndLengthsAtTheirLimits() {
        for (int value = -1; value <= 1001; value++) {
            BoundFrames x = Scene.openAt(0, 0, 1, 1, 1);
            boolean right = value >= 1 && value <= 999;
            check.due("feed of VALUE " + value, x.feed(0, value, 1), right ? 1 : BoundFrames.OUTSIDE);
            check.due("QUEUE", x.near(0, 5), right ? 1 : 0);
            if (right) {
                x.bundle(0);
                x.deliver(0, 0);
                check.due("it comes", x.released(0, 0), value);
            }
        }
        for (int length = -1; length <= 22; length++) {
            BoundFrames x = Scene.openAt(0, 0, 1, 1, 1);
            boolean right = length >= 1 && length <= 20;
            check.due("feed of LENGTH " + length, x.feed(0, 1, length), right ? 1 : BoundFrames.OUTSIDE);
            if (right) {
                x.bundle(0);
                check.due("its LENGTH", x.frame(0, 0, 2), length);
            }
        }
    }

    /** "a QUEUE of what was fed (24 at most)": what was given is not in it any more. */
    private static void queueHasTwentyFour() {
        BoundFrames x = Scene.openAt(0, 0, 12, 4, 1);
        for (int i = 1; i <= 24; i++) {
            check.due("feed " + i, x.feed(0, i, 1), i);
        }
        check.due("one more", x.feed(0, 25, 1), BoundFrames.FULL);
        check.due("bundle", x.bundle(0), 8);
        for (int i = 17; i <= 24; i++) {
            check.due("feed again " + i, x.feed(0, i, 1), i);
        }
        check.due("one more", x.feed(0, 25, 1), BoundFrames.FULL);
        check.due("QUEUE", x.near(0, 5), 24);
    }

    private static void queueIsFedInEveryState() {
        BoundFrames x = Scene.withAir("1+1*9:8");
        Scene.setUp(x, 0, 0, 4, 1, 1);
        check.due("AWAKE", x.feed(0, 1, 1), 1);
        x.bundle(0);
        check.due("while it AWAITS", x.feed(0, 2, 1), 1);
        x.pass(1);
        check.due("ASLEEP", x.feed(0, 3, 1), 2);
        x.expire(0);
        check.due("while a BAR is to be sent", x.feed(0, 4, 1), 3);
        check.due("each CLASS has a QUEUE of its own", x.near(1, 5), BoundFrames.NONE);
    }

    private static void queueKeepsItsOrder() {
        BoundFrames x = Scene.openAt(0, 0, 12, 4, 1);
        Scene.feed(x, 0, 1, 24, 1);
        for (int i = 0; i < 3; i++) {
            check.due("bundle", x.bundle(0), 8);
            for (int k = 0; k < 8; k++) {
                check.due("VALUE", x.frame(0, k, 1), 8 * i + k + 1);
                check.due("NUMBER", x.frame(0, k, 0), 8 * i + k);
            }
            x.deliver(0, 0);
            x.deliver(0, 0);
        }
        check.due("the empty QUEUE", x.near(0, 5), 0);
        check.due("bundle of nothing", x.bundle(0), STATE);
    }

    // ---- what ends a BUNDLE

    private static void boundEndsABundle() {
        for (int bound = 1; bound <= 8; bound++) {
            for (int fed = bound - 1; fed <= bound + 1; fed++) {
                BoundFrames x = Scene.withAir("9+0*9:" + bound);
                Scene.setUp(x, 0, 0, 12, 4, 1);
                Scene.feed(x, 0, 1, fed, 1);
                check.due("bundle of " + fed + " by BOUND " + bound, x.bundle(0), fed == 0 ? STATE : Math.min(fed, bound));
            }
        }
    }

    /** "their LENGTHS together are RATE times LEFT at most". */
    private static void lengthsEndABundle() {
        for (int rate = 1; rate <= 9; rate++) {
            for (int on = 1; on <= 9; on++) {
                int room = rate * on;
                int parts = Math.min(7, room);
                for (int more = 0; more <= 1; more++) {
                    BoundFrames x = Scene.withAir(on + "+1*" + rate + ":8");
                    Scene.setUp(x, 0, 0, 12, 4, 1);
                    for (int k = 0; k < parts; k++) {
                        int length = room / parts + (k < room % parts ? 1 : 0) + (k == parts - 1 ? more : 0);
                        x.feed(0, 1 + k, length);
                    }
                    int want = more == 0 ? parts : parts - 1;
                    check.due("bundle of LENGTHS " + (room + more) + " in " + room, x.bundle(0), want == 0 ? STATE : want);
                }
            }
        }
    }

    private static void oneThatIsJustAsLongAsIsLeft() {
        for (int room = 1; room <= 19; room++) {
            int rate = room <= 9 ? 1 : room % 2 == 0 ? 2 : 0;
            if (rate == 0) {
                continue;
            }
            BoundFrames x = Scene.withAir(room / rate + "+0*" + rate + ":8");
            Scene.setUp(x, 0, 0, 4, 4, 1);
            x.feed(0, 1, room + 1);
            check.due("one that is too long for " + room, x.bundle(0), STATE);
            x.close(0);
            x.deliver(0, 0);
            Scene.setUp(x, 0, 0, 4, 4, 1);
            x.feed(0, 1, room);
            check.due("one that is as long as " + room, x.bundle(0), 1);
        }
    }

    /** "LEFT is how many TICKS it stays AWAKE, with this one". */
    private static void leftIsFromThisTickOn() {
        for (int time = 0; time < 26; time++) {
            BoundFrames x = Scene.withAir("8+5*1:8");
            Scene.setUp(x, 0, 0, 12, 4, 1);
            Scene.feed(x, 0, 1, 8, 1);
            if (time > 0) {
                x.pass(time);
            }
            int left = Math.max(0, 8 - time % 13);
            check.due("LEFT at " + time, x.about(6), left);
            check.due("bundle at " + time, x.bundle(0), left == 0 ? STATE : left);
        }
    }

    /** "their NUMBERS are in the SPAN of START": the last one in it goes, the one behind it does not. */
    private static void theSpanOfStartEndsABundle() {
        for (int window = 1; window <= 12; window++) {
            BoundFrames x = Scene.openAt(0, 0, window, 4, 1);
            Scene.feed(x, 0, 1, 20, 1);
            check.due("bundle by WINDOW " + window, x.bundle(0), Math.min(8, window));
            x.deliver(0, 1);
            x.deliver(0, 0);
            if (window == 1) {
                x.expire(0);
            }
            int size = 1 + Math.max(0, window - 8);
            check.due("the first one again and what the SPAN leaves", x.bundle(0), size);
            check.due("NUMBER of the first", x.frame(0, 0, 0), 0);
            check.due("NUMBER of the last", x.frame(0, size - 1, 0), window > 8 ? window - 1 : 0);
            check.due("NEXT", x.near(0, 4), window);
            check.due("QUEUE", x.near(0, 5), 20 - window);
        }
    }

    /** What is not DONE goes again even if the whole SPAN is given; nothing of the QUEUE does. */
    private static void theSpanEndsWhatWasNotGivenYet() {
        BoundFrames x = Scene.openAt(0, 0, 4, 4, 1);
        Scene.feed(x, 0, 1, 8, 1);
        x.bundle(0);
        x.deliver(0, 1 + 8);
        x.deliver(0, 0);
        check.due("both ends of the SPAN again", x.bundle(0), 2);
        check.due("START", x.frame(0, 0, 0), 0);
        check.due("the last one of the SPAN", x.frame(0, 1, 0), 3);
        x.deliver(0, 2);
        x.deliver(0, 0);
        check.due("START", x.near(0, 3), 3);
        check.due("three more in the SPAN then", x.bundle(0), 4);
        check.due("the last one", x.frame(0, 3, 0), 6);
    }

    private static void theFirstThatDoesNotFitEnds() {
        BoundFrames x = Scene.withAir("1+0*9:8");
        Scene.setUp(x, 0, 0, 12, 4, 1);
        int[] lengths = {4, 5, 1, 8, 9, 1};
        for (int i = 0; i < lengths.length; i++) {
            x.feed(0, 1 + i, lengths[i]);
        }
        int[] sizes = {2, 2, 1, 1};
        for (int size : sizes) {
            check.due("bundle", x.bundle(0), size);
            x.deliver(0, 0);
            x.deliver(0, 0);
        }
        x.feed(0, 9, 10);
        x.feed(0, 9, 1);
        check.due("one that never fits lets none behind it go", x.bundle(0), STATE);
        check.due("they stay in the QUEUE", x.near(0, 5), 2);
        check.due("NEXT stays", x.near(0, 4), 6);
    }

    /** Also of what is not DONE: neither a shorter one behind it nor the QUEUE gets its turn. */
    private static void anOldOneThatDoesNotFitEnds() {
        BoundFrames x = Scene.withAir("2+0*9:8");
        Scene.setUp(x, 0, 0, 12, 4, 1);
        x.feed(0, 1, 3);
        x.feed(0, 2, 8);
        x.feed(0, 3, 2);
        check.due("bundle with LEFT 2", x.bundle(0), 3);
        x.expire(0);
        x.feed(0, 4, 1);
        x.pass(1);
        check.due("bundle with LEFT 1", x.bundle(0), 1);
        check.due("TRIED of the first", x.given(0, 0, 3), 2);
        check.due("TRIED of the one that did not fit", x.given(0, 1, 3), 1);
        check.due("TRIED of the one behind it", x.given(0, 2, 3), 1);
        check.due("QUEUE", x.near(0, 5), 1);
    }

    /** What is DONE counts neither for BOUND nor for the LENGTHS. */
    private static void whatIsDoneTakesNoRoom() {
        BoundFrames x = Scene.withAir("1+0*9:3");
        Scene.setUp(x, 0, 0, 12, 4, 1);
        Scene.feed(x, 0, 1, 6, 3);
        check.due("bundle", x.bundle(0), 3);
        x.deliver(0, 1 + 4);
        x.deliver(0, 0);
        check.due("two old ones and one new one", x.bundle(0), 3);
        int[] numbers = {0, 2, 3};
        for (int k = 0; k < 3; k++) {
            check.due("NUMBER", x.frame(0, k, 0), numbers[k]);
        }
        check.due("the one that is DONE is not TRIED", x.given(0, 1, 3), 1);
    }

    /** Old ones and the QUEUE fill one room: by how much is left of it as many of the QUEUE go. */
    private static void lengthsOfOldAndNewTogether() {
        int[] queue = {1, 2, 3, 4, 5, 6};
        for (int old = 1; old <= 4; old++) {
            for (int length = 1; length <= 9; length++) {
                BoundFrames x = Scene.withAir("4+0*9:8");
                Scene.setUp(x, 0, 0, 12, 4, 1);
                Scene.feed(x, 0, 1, old, length);
                x.bundle(0);
                x.expire(0);
                x.pass(2);
                for (int each : queue) {
                    x.feed(0, 50 + each, each);
                }
                int room = 18;
                int size = 0;
                for (int k = 0; k < old + queue.length && size < 8; k++) {
                    room -= k < old ? length : queue[k - old];
                    if (room < 0) {
                        break;
                    }
                    size++;
                }
                check.due(old + " old ones of LENGTH " + length, x.bundle(0), size);
                check.due("NEXT", x.near(0, 4), Math.max(old, size));
                check.due("QUEUE", x.near(0, 5), queue.length - Math.max(0, size - old));
            }
        }
    }

    /** The last TICK AWAKE, the first ASLEEP, the last ASLEEP, the first AWAKE again. */
    private static void bundleAtTheEdgesOfATurn() {
        int[] times = {0, 2, 3, 7, 8, 10, 11, 15, 16};
        for (int time : times) {
            BoundFrames x = Scene.withAir("3+5*9:8");
            Scene.setUp(x, 0, 0, 4, 1, 1);
            x.feed(0, 1, 1);
            if (time > 0) {
                x.pass(time);
            }
            boolean awake = time % 8 < 3;
            check.due("AWAKE at " + time, x.about(5), awake ? 1 : 0);
            check.due("bundle at " + time, x.bundle(0), awake ? 1 : STATE);
        }
        BoundFrames x = Scene.withAir("1+0*9:8");
        Scene.setUp(x, 0, 0, 4, 1, 1);
        Scene.feed(x, 0, 1, 20, 1);
        for (int i = 0; i < 5; i++) {
            check.due("OFF 0: never ASLEEP", x.bundle(0), 4);
            x.deliver(0, 0);
            x.deliver(0, 0);
            x.pass(1);
        }
    }

    // ---- BARS

    private static void aBarGoesAheadOfABundle() {
        BoundFrames x = Scene.openAt(0, 0, 4, 1, 1);
        Scene.feed(x, 0, 1, 9, 1);
        x.bundle(0);
        x.expire(0);
        int sent = x.count(0);
        int frames = x.count(2);
        check.due("bundle: a BAR", x.bundle(0), 0);
        check.due("SORT", x.under(0, 0), 3);
        check.due("NUMBER", x.under(0, 3), 4);
        check.due("SUB-FRAMES of it", x.under(0, 2), 0);
        check.due("LETTERS sent", x.count(0), sent + 1);
        check.due("SUB-FRAMES sent", x.count(2), frames);
        check.due("nothing of the QUEUE went", x.near(0, 5), 5);
        check.due("it AWAITS", x.near(0, 7), 1);
        check.due("no BAR is to be sent", x.near(0, 8), 0);
    }

    /** A BAR goes whatever LEFT, BOUND and the QUEUE are, but not ASLEEP. */
    private static void aBarNeedsNoRoom() {
        BoundFrames x = Scene.withAir("1+1*1:1");
        Scene.setUp(x, 0, 0, 1, 1, 1);
        x.feed(0, 1, 1);
        x.bundle(0);
        x.expire(0);
        x.pass(1);
        check.due("ASLEEP", x.bundle(0), STATE);
        x.pass(1);
        x.feed(0, 1, 20);
        check.due("AWAKE", x.bundle(0), 0);
        check.due("SORT", x.under(0, 0), 3);
    }

    // ---- GIVE UP

    /** "TRIED as often as TRIES tells": not once less. */
    private static void triedAsOftenAsTriesTells() {
        for (int tries = 1; tries <= 4; tries++) {
            BoundFrames x = Scene.openAt(0, 0, 4, tries, 1);
            x.feed(0, 1, 1);
            for (int tried = 1; tried <= tries; tried++) {
                check.due("LOST ahead of it", x.near(0, 9), 0);
                check.due("bundle", x.bundle(0), 1);
                check.due("TRIED", x.given(0, 0, 3), tried);
                x.expire(0);
            }
            check.due("LOST behind TRIES " + tries, x.near(0, 9), 1);
            check.due("likewise in all", x.count(6), 1);
            check.due("START", x.near(0, 3), 1);
            check.due("a BAR is to be sent", x.near(0, 8), 1);
            check.due("nothing is given any more", x.given(0, 0, 0), BoundFrames.UNKNOWN);
        }
    }

    /** The same with an ANSWER for another NUMBER; one that comes with the last try is not LOST. */
    private static void triesWithAnAnswer() {
        for (int tries = 1; tries <= 4; tries++) {
            for (int last = 0; last <= 1; last++) {
                BoundFrames x = Scene.openAt(0, 0, 12, tries, 1);
                x.feed(0, 1, 1);
                for (int tried = 1; tried <= tries; tried++) {
                    x.feed(0, 1 + tried, 1);
                    x.bundle(0);
                    x.deliver(0, tried == tries ? last : 1);
                    x.deliver(0, 0);
                    check.due("DONE", x.near(0, 6), tried < tries ? 1 : 0);
                }
                check.due("LOST", x.near(0, 9), last);
                check.due("BAR", x.near(0, 8), last);
                check.due("START", x.near(0, 3), tries + 1);
            }
        }
    }

    private static void startMovesToNextOrToTheFirstNotDone() {
        BoundFrames x = Scene.openAt(0, 0, 8, 2, 1);
        Scene.feed(x, 0, 1, 4, 1);
        x.bundle(0);
        x.deliver(0, 2);
        x.deliver(0, 0);
        check.due("to the first that is not DONE", x.near(0, 3), 1);
        check.due("NEXT", x.near(0, 4), 4);
        x.bundle(0);
        x.deliver(0, 0);
        x.deliver(0, 0);
        check.due("over what was DONE, to NEXT", x.near(0, 3), 4);
        Scene.feed(x, 0, 5, 3, 1);
        x.bundle(0);
        x.expire(0);
        x.feed(0, 8, 1);
        x.bundle(0);
        x.expire(0);
        check.due("over what was LOST", x.near(0, 3), 7);
        check.due("one is not DONE", x.near(0, 6), 1);
        check.due("its NUMBER", x.given(0, 0, 0), 7);
        check.due("its VALUE", x.given(0, 0, 1), 8);
    }

    // ---- expire

    private static void expireTellsHowManyWereLost() {
        BoundFrames x = Scene.withAir("9+0*9:8");
        x.open(0, 0, 4, 4, 1);
        check.due("ASK", x.expire(0), 1);
        x.open(0, 0, 4, 4, 1);
        x.deliver(0, 0);
        check.due("YES", x.expire(0), 1);
        x.open(0, 0, 4, 4, 1);
        x.lose(0);
        check.due("nothing is under way", x.expire(0), 0);
        Scene.setUp(x, 0, 0, 4, 4, 1);
        x.feed(0, 1, 1);
        x.bundle(0);
        check.due("BUNDLE", x.expire(0), 1);
        x.bundle(0);
        x.deliver(0, 0);
        check.due("ANSWER", x.expire(0), 1);
        x.bundle(0);
        x.deliver(0, 1);
        check.due("nothing is under way", x.expire(0), 0);
        check.due("LETTERS lost", x.count(1), 5);
        check.due("under way", x.count(7), 0);
    }

    private static void expireLosesItsOwnClassAlone() {
        for (int of = 0; of < 4; of++) {
            BoundFrames x = Scene.withAir("9+0*9:8");
            for (int each = 0; each < 4; each++) {
                x.open(each, 0, 1 + each, 1, 1);
            }
            check.due("expire " + of, x.expire(of), 1);
            check.due("under way", x.count(7), 3);
            for (int place = 0; place < 3; place++) {
                int each = place < of ? place : place + 1;
                check.due("CLASS at " + place, x.under(place, 1), each);
                check.due("WINDOW at " + place, x.under(place, 5), 1 + each);
                check.due("still ASKED", x.near(each, 0), 1);
            }
            check.due("none", x.near(of, 0), 0);
        }
    }

    private static void aBarIsSentAgainUntilItIsAnswered() {
        BoundFrames x = Scene.openAt(0, 0, 4, 1, 1);
        Scene.feed(x, 0, 1, 6, 1);
        x.bundle(0);
        x.expire(0);
        for (int i = 0; i < 6; i++) {
            check.due("a BAR goes", x.bundle(0), 0);
            check.due("its NUMBER", x.under(0, 3), 4);
            if (i % 3 == 1) {
                x.deliver(0, 0);
            } else if (i % 3 == 2) {
                x.lose(0);
            }
            check.due("expire", x.expire(0), i % 3 == 2 ? 0 : 1);
            check.due("to be sent again", x.near(0, 8), 1);
        }
        check.due("LOST once", x.near(0, 9), 4);
        Scene.exchange(x, 0, 0);
        check.due("answered: not again", x.near(0, 8), 0);
        check.due("a BUNDLE goes", x.bundle(0), 2);
    }

    /** "if a BAR had gone": not if a BUNDLE had, though a BAR was ahead of it. */
    private static void aBarThatWasAnsweredIsNotSentAgain() {
        BoundFrames x = Scene.openAt(0, 0, 4, 2, 1);
        x.feed(0, 1, 1);
        x.bundle(0);
        x.expire(0);
        x.bundle(0);
        x.expire(0);
        check.due("BAR", x.bundle(0), 0);
        x.deliver(0, 0);
        x.deliver(0, 0);
        x.feed(0, 2, 1);
        check.due("BUNDLE", x.bundle(0), 1);
        x.expire(0);
        check.due("no BAR is to be sent", x.near(0, 8), 0);
        check.due("the BUNDLE goes again", x.bundle(0), 1);
    }

    // ---- ANSWER

    /** "bit K for the one K AHEAD": the first and the last NUMBER of the SPAN. */
    private static void answerBitsAtBothEndsOfTheSpan() {
        for (int window = 2; window <= 8; window++) {
            BoundFrames x = Scene.openAt(0, 0, window, 4, 1);
            Scene.feed(x, 0, 1, window, 1);
            x.bundle(0);
            x.deliver(0, (1 << window) - 1 & ~1 & ~(1 << window - 1));
            check.due("bits", x.under(0, 4), 1 | 1 << window - 1);
            x.deliver(0, 0);
            check.due("the first is DONE", x.near(0, 3), window == 2 ? 2 : 1);
            check.due("the last is DONE", x.near(0, 6), window - 2);
            if (window > 2) {
                check.due("as told", x.given(0, window - 2, 4), 1);
                check.due("the one ahead of it is not", x.given(0, window - 3, 4), 0);
            }
        }
        BoundFrames x = Scene.openAt(0, 0, 12, 4, 1);
        Scene.feed(x, 0, 1, 12, 1);
        Scene.exchange(x, 0, 1);
        Scene.exchange(x, 0, 1 + 2 + 4 + 8);
        check.due("the twelfth is DONE", x.given(0, 11, 4), 1);
        check.due("the eleventh is not", x.given(0, 10, 4), 0);
        check.due("START", x.near(0, 3), 0);
    }

    /** "is less than WINDOW AHEAD of that of the ANSWER". */
    private static void answerWithoutWhatIsAWindowAhead() {
        BoundFrames x = Scene.openAt(4, 0, 4, 4, 1);
        Scene.feed(x, 0, 1, 4, 1);
        x.bundle(0);
        x.deliver(0, 2 + 4 + 8);
        check.due("MARK", x.under(0, 3), 1);
        check.due("bits", x.under(0, 4), 15);
        x.deliver(0, 0);
        check.due("START", x.near(0, 3), 5);
        check.due("not DONE", x.near(0, 6), 3);
    }
}
