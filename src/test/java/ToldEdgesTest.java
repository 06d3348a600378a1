/** The edges of promises 14 to 24: the first and the last of what is told, the empty and the full row. */
public final class ToldEdgesTest {
    private static final Check check = new Check("ToldEdgesTest");
    private static final int NONE = BoundFrames.NONE;
    private static final int UNKNOWN = BoundFrames.UNKNOWN;
    private static final int OUTSIDE = BoundFrames.OUTSIDE;

    public static void main(String[] args) {
        eachWhatHasItsLimits();
        aboutAsleepAndAwake();
        nearOfNoneAskedAndOpen();
        givenOfNothingAndOfAWholeSpan();
        givenTellsTheQueueNot();
        farIsThereOrNot();
        heldOfAnEmptyAndAFullSpan();
        heldIsHadOrNothing();
        asEachKind();
        asWhenTheNearEndIsGone();
        tenAreKept();
        releasedOutlivesASession();
        underOfEachSort();
        underOfFourLetters();
        frameOfOneAndOfEight();
        checkOfTheLeastAndTheMost();
        countsOfNothing();
        countsSinceTheAirWasRead();
        digestOfEachState();
        digestOfFullRows();
        digestTellsWhatChanged();
        check.end();
    }

    private static int orOutside(boolean right, int want) {
        return right ? want : OUTSIDE;
    }

    /** Every what from -2 to 12 in each call that has one: it is told, or OUTSIDE. */
    private static void eachWhatHasItsLimits() {
        BoundFrames x = Scene.openAt(0, 1, 4, 2, 3);
        x.feed(0, 5, 6);
        x.bundle(0);
        x.lose(0);
        x.expire(0);
        x.bundle(0);
        for (int what = -2; what <= 12; what++) {
            check.holds("about " + what, x.about(what) == OUTSIDE != (what >= 0 && what <= 6));
            check.holds("near " + what, x.near(0, what) == OUTSIDE != (what >= 0 && what <= 9));
            check.holds("given " + what, x.given(0, 0, what) == OUTSIDE != (what >= 0 && what <= 4));
            check.holds("far " + what, x.far(0, what) == OUTSIDE != (what >= 0 && what <= 8));
            check.holds("as " + what, x.as(0, what) == OUTSIDE != (what >= 0 && what <= 2));
            check.holds("under " + what, x.under(0, what) == OUTSIDE != (what >= 0 && what <= 5));
            check.holds("frame " + what, x.frame(0, 0, what) == OUTSIDE != (what >= 0 && what <= 3));
            check.holds("count " + what, x.count(what) == OUTSIDE != (what >= 0 && what <= 9));
        }
    }

    private static void aboutAsleepAndAwake() {
        BoundFrames x = Scene.withAir("1+1*2:3");
        int[] want = {1, 1, 2, 3, 0, 1, 1};
        for (int time = 0; time < 6; time++) {
            want[4] = time;
            want[5] = 1 - time % 2;
            want[6] = 1 - time % 2;
            for (int what = -1; what <= 7; what++) {
                check.due("about " + what + " at " + time, x.about(what), orOutside(what >= 0 && what <= 6, what < 0 || what > 6 ? 0 : want[what]));
            }
            x.pass(1);
        }
    }

    // ---- near, given

    private static void nearOfNoneAskedAndOpen() {
        for (int of = 0; of < 4; of++) {
            BoundFrames x = Scene.withAir("9+0*9:8");
            for (int stage = 0; stage < 3; stage++) {
                check.due("near " + of, x.near(of, 0), stage);
                for (int what = 1; what < 10; what++) {
                    check.holds("near " + of + "," + what + " in " + stage, (x.near(of, what) == NONE) == (stage < 2));
                }
                for (int other = 0; other < 4; other++) {
                    check.due("near of another CLASS", x.near(other, 0), other == of ? stage : 0);
                }
                if (stage == 0) {
                    x.open(of, 0, 4, 1, 1);
                } else {
                    x.deliver(0, 0);
                    x.deliver(0, 0);
                }
            }
            x.close(of);
            check.due("near behind close", x.near(of, 0), 0);
            check.due("near behind close", x.near(of, 1), NONE);
        }
    }

    /** "Of the NUMBER at a place from START on (to NEXT)". */
    private static void givenOfNothingAndOfAWholeSpan() {
        for (int window = 1; window <= 12; window++) {
            BoundFrames x = Scene.openAt(0, 0, window, 4, 1);
            check.due("nothing is given", x.given(0, 0, 0), UNKNOWN);
            Scene.feed(x, 0, 101, 20, 1);
            x.bundle(0);
            x.deliver(0, window == 1 ? 0 : 1);
            if (window > 1) {
                x.deliver(0, 0);
                x.bundle(0);
            }
            for (int place = 0; place < window; place++) {
                check.due("NUMBER at " + place, x.given(0, place, 0), place);
                check.due("VALUE at " + place, x.given(0, place, 1), 101 + place);
                check.due("TRIED at " + place, x.given(0, place, 3), place == 0 && window > 1 ? 2 : 1);
                boolean done = place > 0 && place < 8;
                check.due("DONE at " + place, x.given(0, place, 4), done ? 1 : 0);
            }
            check.due("behind the last", x.given(0, window, 0), UNKNOWN);
            check.due("ahead of the first", x.given(0, -1, 0), UNKNOWN);
        }
    }

    private static void givenTellsTheQueueNot() {
        BoundFrames x = Scene.withAir("9+0*9:1");
        Scene.setUp(x, 0, 0, 12, 4, 1);
        Scene.feed(x, 0, 1, 3, 1);
        check.due("fed, not given", x.given(0, 0, 0), UNKNOWN);
        x.bundle(0);
        check.due("given", x.given(0, 0, 0), 0);
        check.due("not given yet", x.given(0, 1, 0), UNKNOWN);
    }

    // ---- far, held, as, released

    private static void farIsThereOrNot() {
        for (int of = 0; of < 4; of++) {
            BoundFrames x = Scene.withAir("9+0*9:8");
            x.open(of, 2, 13, 1, 1);
            check.due("not there yet", x.far(of, 0), 0);
            for (int what = 1; what < 9; what++) {
                check.due("far " + what, x.far(of, what), NONE);
            }
            x.deliver(0, 0);
            int[] want = {1, 2, 12, 0, 0, 0, 0, 0, 0};
            for (int what = 0; what < 9; what++) {
                check.due("far " + what, x.far(of, what), want[what]);
            }
            x.deliver(0, 0);
            x.close(of);
            check.due("still there", x.far(of, 0), 1);
            x.deliver(0, 0);
            check.due("not there any more", x.far(of, 0), 0);
            check.due("and tells nothing", x.far(of, 2), NONE);
        }
    }

    private static void heldOfAnEmptyAndAFullSpan() {
        for (int window = 1; window <= 12; window++) {
            BoundFrames x = Scene.openAt(0, 0, window, 4, 1);
            for (int place = 0; place < window; place++) {
                check.due("empty at " + place, x.held(0, place), NONE);
            }
            check.due("behind the SPAN", x.held(0, window), UNKNOWN);
            Scene.feed(x, 0, 101, window, 1);
            Scene.exchange(x, 0, 1);
            if (window > 8) {
                Scene.exchange(x, 0, 1);
            }
            check.due("HELD", x.far(0, 6), window - 1);
            for (int place = 0; place < window; place++) {
                check.due("full at " + place, x.held(0, place), place == 0 ? NONE : 101 + place);
            }
            check.due("behind the SPAN", x.held(0, window), UNKNOWN);
            check.due("ahead of the SPAN", x.held(0, -1), UNKNOWN);
        }
    }

    /** "NONE: nothing; 0: it was HAD". */
    private static void heldIsHadOrNothing() {
        BoundFrames x = Scene.openAt(0, 2, 12, 4, 1);
        Scene.feed(x, 0, 101, 12, 1);
        Scene.exchange(x, 0, 1);
        Scene.exchange(x, 0, 1);
        for (int place = 0; place < 12; place++) {
            check.due("HAD at " + place, x.held(0, place), place == 0 ? NONE : 0);
        }
        check.due("nothing is HELD", x.far(0, 6), 0);
    }

    /** "a HASTY one is STRICT, too": and no other way round. */
    private static void asEachKind() {
        int[][] want = {{0, NONE, NONE}, {1, 1, NONE}, {NONE, NONE, 2}};
        for (int kind = 0; kind < 3; kind++) {
            BoundFrames x = Scene.openAt(0, kind, 4, 1, 1);
            for (int as = -1; as <= 3; as++) {
                boolean right = as >= 0 && as <= 2;
                check.due("KIND " + kind + " as " + as, x.as(0, as), right ? want[kind][as] : OUTSIDE);
            }
        }
    }

    private static void asWhenTheNearEndIsGone() {
        BoundFrames x = Scene.withAir("9+0*9:8");
        x.open(0, 1, 4, 1, 1);
        check.due("ASK is under way", x.as(0, 0), UNKNOWN);
        x.deliver(0, 0);
        check.due("ahead of YES", x.as(0, 0), 1);
        x.expire(0);
        check.due("the near end is none", x.as(0, 1), 1);
        x.open(0, 2, 4, 1, 1);
        check.due("as it was until ASK comes", x.as(0, 1), 1);
        x.deliver(0, 0);
        check.due("another KIND", x.as(0, 1), NONE);
        check.due("another KIND", x.as(0, 2), 2);
        x.deliver(0, 0);
        x.close(0);
        x.deliver(0, 0);
        check.due("no SESSION is there", x.as(0, 2), UNKNOWN);
    }

    /** "the latest at 0 (ten are kept)". */
    private static void tenAreKept() {
        BoundFrames x = Scene.openAt(0, 0, 12, 4, 1);
        for (int released = 0; released <= 13; released++) {
            int kept = Math.min(10, released);
            for (int place = 0; place < kept; place++) {
                check.due("of " + released + " at " + place, x.released(0, place), released - place);
            }
            check.due("of " + released + " no more", x.released(0, kept), UNKNOWN);
            check.due("RELEASED", x.count(4), released);
            x.feed(0, released + 1, 1);
            Scene.exchange(x, 0, 0);
        }
    }

    /** "What was RELEASED of a CLASS, since the AIR was read": not of a SESSION. */
    private static void releasedOutlivesASession() {
        BoundFrames x = Scene.openAt(0, 0, 4, 4, 1);
        x.feed(0, 77, 1);
        Scene.exchange(x, 0, 0);
        x.close(0);
        x.deliver(0, 0);
        check.due("behind END", x.released(0, 0), 77);
        Scene.setUp(x, 0, 2, 4, 4, 1);
        x.feed(0, 78, 1);
        Scene.exchange(x, 0, 0);
        check.due("of the new SESSION", x.released(0, 0), 78);
        check.due("of the old SESSION", x.released(0, 1), 77);
        check.due("of another CLASS", x.released(1, 0), UNKNOWN);
        Scene.write(x, "1+0*1:1");
        x.air();
        check.due("of another AIR", x.released(0, 0), UNKNOWN);
    }

    // ---- under, frame

    private static void tellsUnder(String sort, BoundFrames x, int... want) {
        for (int what = 0; what < 6; what++) {
            check.due("under " + what + " of " + sort, x.under(0, what), want[what]);
        }
        check.due("frame of " + sort, x.frame(0, want[2], 0), UNKNOWN);
    }

    private static void underOfEachSort() {
        for (int of = 0; of < 4; of++) {
            BoundFrames x = Scene.withAir("9+0*9:8");
            x.open(of, 1, 15, 1, 1);
            tellsUnder("ASK", x, 0, of, 0, NONE, NONE, 15);
            x.deliver(0, 0);
            tellsUnder("YES", x, 1, of, 0, NONE, NONE, 12);
            x.deliver(0, 0);
            Scene.feed(x, of, 1, 8, 1);
            x.bundle(of);
            tellsUnder("BUNDLE", x, 2, of, 8, NONE, NONE, NONE);
            x.deliver(0, 1);
            tellsUnder("ANSWER", x, 4, of, 0, 0, 254, NONE);
            x.deliver(0, 0);
            x.bundle(of);
            tellsUnder("BAR", x, 3, of, 0, 8, NONE, NONE);
            x.deliver(0, 0);
            tellsUnder("ANSWER without bits", x, 4, of, 0, 8, 0, NONE);
            x.deliver(0, 0);
            x.close(of);
            tellsUnder("END", x, 5, of, 0, NONE, NONE, NONE);
        }
    }

    private static void underOfFourLetters() {
        BoundFrames x = Scene.withAir("9+0*9:8");
        for (int of = 0; of < 4; of++) {
            check.due("none at " + of, x.under(of, 0), UNKNOWN);
            x.open(of, 0, 1 + of, 1, 1);
        }
        for (int place = -1; place <= 4; place++) {
            boolean there = place >= 0 && place < 4;
            check.due("CLASS at " + place, x.under(place, 1), there ? place : UNKNOWN);
            check.due("WINDOW at " + place, x.under(place, 5), there ? place + 1 : UNKNOWN);
        }
    }

    private static void frameOfOneAndOfEight() {
        for (int size = 1; size <= 8; size++) {
            BoundFrames x = Scene.openAt(0, 0, 12, 4, 1);
            Scene.feed(x, 0, 201, size, 3);
            x.bundle(0);
            check.due("how many", x.under(0, 2), size);
            for (int frame = -1; frame <= size; frame++) {
                boolean there = frame >= 0 && frame < size;
                check.due("NUMBER " + frame, x.frame(0, frame, 0), there ? frame : UNKNOWN);
                check.due("VALUE " + frame, x.frame(0, frame, 1), there ? 201 + frame : UNKNOWN);
                check.due("LENGTH " + frame, x.frame(0, frame, 2), there ? 3 : UNKNOWN);
            }
        }
    }

    /** The register by the words of the document: one bit at a time, as a row. */
    private static int checkByBits(int... parts) {
        boolean[] register = new boolean[8];
        for (int part : parts) {
            for (int bit = 0; bit < 8; bit++) {
                register[bit] ^= (part >> bit & 1) == 1;
            }
            for (int turn = 0; turn < 8; turn++) {
                boolean went = register[7];
                for (int bit = 7; bit > 0; bit--) {
                    register[bit] = register[bit - 1];
                }
                register[0] = false;
                for (int bit = 0; bit < 3; bit++) {
                    register[bit] ^= went;
                }
            }
        }
        int check = 0;
        for (int bit = 0; bit < 8; bit++) {
            check += register[bit] ? 1 << bit : 0;
        }
        return check;
    }

    private static void checkOfTheLeastAndTheMost() {
        int[] values = {1, 2, 127, 128, 255, 256, 257, 511, 512, 513, 767, 768, 769, 998, 999};
        int[] lengths = {1, 2, 9, 10, 19, 20};
        for (int of = 0; of < 4; of++) {
            for (int value : values) {
                for (int length : lengths) {
                    BoundFrames x = Scene.withAir("9+0*9:8");
                    Scene.setUp(x, of, 0, 12, 4, 1);
                    x.feed(of, value, length);
                    x.feed(of, value, length);
                    x.bundle(of);
                    for (int number = 0; number < 2; number++) {
                        int want = checkByBits(of, number, value / 256, value % 256, length);
                        check.due("CHECK of " + of + "," + number + "," + value + "," + length, x.frame(0, number, 3), want);
                    }
                }
            }
        }
    }

    // ---- count, digest

    private static void countsOfNothing() {
        BoundFrames x = new BoundFrames();
        for (int what = -1; what <= 10; what++) {
            check.due("count " + what + " of a new object", x.count(what), orOutside(what >= 0 && what <= 9, 0));
        }
        x = Scene.withAir("1+0*1:1");
        for (int what = -1; what <= 10; what++) {
            check.due("count " + what + " of an AIR", x.count(what), orOutside(what >= 0 && what <= 9, what == 9 ? 1 : 0));
        }
    }

    private static void countsSinceTheAirWasRead() {
        BoundFrames x = Scene.withAir("9+0*9:8");
        for (int airs = 1; airs <= 3; airs++) {
            Scene.setUp(x, 0, 0, 4, 2, 1);
            Scene.feed(x, 0, 1, 4, 1);
            for (int tried = 0; tried < 2; tried++) {
                x.bundle(0);
                x.deliver(0, 2);
                x.lose(0);
                x.expire(0);
            }
            x.bundle(0);
            Scene.write(x, "12");
            int[] want = {7, 2, 8, 6, 1, 3, 4, 1, 2, airs};
            for (int what = 0; what < 10; what++) {
                check.due("count " + what + " of AIR " + airs, x.count(what), want[what]);
            }
            x.blank();
            Scene.write(x, "9+0*9:8");
            x.air();
        }
    }

    private static long mix(long h, int... numbers) {
        long mixed = h;
        for (int number : numbers) {
            mixed = 31 * mixed + number;
        }
        return mixed;
    }

    /** Written out by hand: no AIR, a PAGE, an AIR alone. */
    private static void digestOfEachState() {
        BoundFrames x = new BoundFrames();
        check.due("new", x.digest(), mix(1543, 0, 0, 0, 0, 0, 0, 0, 0, 0, 0));
        Scene.write(x, " ~");
        check.due("a PAGE", x.digest(), mix(1543, 32, 126, 0, 0, 0, 0, 0, 0, 0, 0, 2, 0));
        x = Scene.withAir("3+4*5:6");
        long h = mix(1543, 3, 4, 5, 6, 0, 1, 3);
        for (int of = 0; of < 4; of++) {
            h = mix(h, 0, NONE, NONE, NONE, NONE, NONE, NONE, NONE, NONE, NONE);
            h = mix(h, 0, NONE, NONE, NONE, NONE, NONE, NONE, NONE, NONE);
        }
        check.due("an AIR", x.digest(), mix(h, 0, 0, 0, 0, 0, 0, 0, 0, 0, 1));
        x.open(0, 1, 14, 2, 3);
        long asked = mix(1543, 3, 4, 5, 6, 0, 1, 3, 1, NONE, NONE, NONE, NONE, NONE, NONE, NONE, NONE, NONE);
        asked = mix(asked, 0, NONE, NONE, NONE, NONE, NONE, NONE, NONE, NONE);
        for (int of = 1; of < 4; of++) {
            asked = mix(asked, 0, NONE, NONE, NONE, NONE, NONE, NONE, NONE, NONE, NONE);
            asked = mix(asked, 0, NONE, NONE, NONE, NONE, NONE, NONE, NONE, NONE);
        }
        asked = mix(asked, 0, 0, 0, NONE, NONE, 14);
        check.due("ASKED", x.digest(), mix(asked, 1, 0, 0, 0, 0, 0, 0, 1, 0, 1));
    }

    /** Twelve are given, eleven HELD or HAD, ten RELEASED; an ANSWER is under way. */
    private static BoundFrames fullRows(int kind) {
        BoundFrames x = Scene.openAt(11, kind, 12, 4, 20);
        Scene.feed(x, 0, 901, 24, 1);
        Scene.exchange(x, 0, 1);
        x.bundle(0);
        x.deliver(0, 1);
        return x;
    }

    /** The same with four LETTERS under way and a full PAGE. */
    private static BoundFrames fullAir(int kind) {
        BoundFrames x = fullRows(kind);
        x.deliver(0, 0);
        x.pass(1);
        for (int of = 1; of < 4; of++) {
            x.open(of, kind, 15, 4, 20);
        }
        x.deliver(0, 0);
        x.bundle(0);
        Scene.write(x, " ~12+*:89");
        return x;
    }

    private static void digestOfFullRows() {
        for (int kind = 0; kind < 3; kind++) {
            BoundFrames x = fullRows(kind);
            check.due("eleven", x.far(0, 6), kind == 2 ? 0 : 11);
            check.due("twelve", x.given(0, 11, 0), 22);
            check.due("ten", x.released(0, 9), kind == 2 ? 903 : 2);
            check.due("with an ANSWER", x.digest(), Told.digest(x, ""));
            BoundFrames y = fullAir(kind);
            check.due("four", y.count(7), 4);
            check.due("with four LETTERS", y.digest(), Told.digest(y, " ~12+*:89"));
        }
        BoundFrames x = Scene.openAt(0, 0, 8, 4, 20);
        Scene.feed(x, 0, 901, 8, 2);
        x.bundle(0);
        check.due("eight SUB-FRAMES", x.frame(0, 7, 1), 908);
        check.due("with a BUNDLE", x.digest(), Told.digest(x, ""));
    }

    /** Each call that changes what is told changes the digest; one that tells does not. */
    private static void digestTellsWhatChanged() {
        Refusal.Call[] steps = {x -> x.letter('1'), x -> x.blank(), x -> x.open(0, 1, 8, 2, 3), x -> x.deliver(0, 0),
            x -> x.deliver(0, 0), x -> x.feed(0, 9, 2), x -> x.feed(0, 8, 2), x -> x.bundle(0), x -> x.deliver(0, 1),
            x -> x.pass(1), x -> x.expire(0), x -> x.bundle(0), x -> x.lose(0), x -> x.expire(0), x -> x.bundle(0),
            x -> x.deliver(0, 0), x -> x.deliver(0, 0), x -> x.close(0), x -> x.deliver(0, 0)};
        BoundFrames x = Scene.withAir("9+0*9:8");
        for (int i = 0; i < steps.length; i++) {
            long before = x.digest();
            check.due("digest once more", x.digest(), before);
            check.holds("step " + i + " is not refused", steps[i].on(x) >= 0);
            check.holds("digest changes by step " + i, x.digest() != before);
        }
    }
}
