/**
 * "Refusals, of several the first as told by each call: UNKNOWN, OUTSIDE, STATE, FULL; they change nothing."
 * Each refused call, one value beyond each limit on each side, with what is told ahead of it and behind it.
 */
public final class RefusalTest {
    private static final Check check = new Check("RefusalTest");
    private static final int LEAST = Integer.MIN_VALUE;
    private static final int MOST = Integer.MAX_VALUE;
    private static final int[] NO_CLASS = {-1, 4, LEAST, MOST};

    private static final Refusal NEW = at("of a new object", BoundFrames::new);
    private static final Refusal FULL_PAGE = at("with a full page", RefusalTest::fullPage);
    private static final Refusal BARE = at("with an AIR alone", () -> Scene.withAir("9+0*9:8"));
    private static final Refusal ASK = at("with ASK under way", RefusalTest::asked);
    private static final Refusal YES = at("with YES under way", RefusalTest::yes);
    private static final Refusal ASK_LOST = at("with ASK lost", RefusalTest::askLost);
    private static final Refusal IDLE = at("OPEN, with nothing fed", () -> Scene.openAt(0, 1, 4, 2, 3));
    private static final Refusal FED = at("with a full QUEUE", RefusalTest::fed);
    private static final Refusal BUNDLE = at("with a BUNDLE under way", RefusalTest::bundled);
    private static final Refusal ANSWER = at("with an ANSWER under way", RefusalTest::answer);
    private static final Refusal ANSWER_LOST = at("with an ANSWER lost", RefusalTest::answerLost);
    private static final Refusal BAR_DUE = at("with a BAR to be sent", RefusalTest::barDue);
    private static final Refusal BAR = at("with a BAR under way", RefusalTest::bar);
    private static final Refusal END = at("with END under way", RefusalTest::ended);
    private static final Refusal END_LOST = at("with END lost", RefusalTest::endLost);
    private static final Refusal ASLEEP = at("ASLEEP", RefusalTest::asleep);
    private static final Refusal BAR_ASLEEP = at("ASLEEP with a BAR to be sent", RefusalTest::barAsleep);
    private static final Refusal TOO_LONG = at("with what is too long for LEFT", RefusalTest::tooLong);
    private static final Refusal[] WITH_SESSION = {IDLE, FED, BUNDLE, ANSWER, ANSWER_LOST, BAR_DUE, BAR, ASLEEP, BAR_ASLEEP};
    private static final Refusal[] AWAITING = {BUNDLE, ANSWER, ANSWER_LOST, BAR};
    private static final Refusal[] WITH_AIR = {BARE, ASK, YES, ASK_LOST, IDLE, FED, BUNDLE, ANSWER, BAR_DUE, BAR, END, ASLEEP};

    public static void main(String[] args) {
        letter();
        air();
        openWithoutAir();
        openOfNoClass();
        openOutside();
        openState();
        close();
        feed();
        bundle();
        expire();
        deliver();
        lose();
        pass();
        about();
        near();
        given();
        far();
        held();
        as();
        released();
        under();
        frame();
        count();
        check.end();
    }

    private static Refusal at(String where, Refusal.Scenery scenery) {
        return new Refusal(check, where, scenery);
    }

    // ---- where the calls are refused

    private static BoundFrames fullPage() {
        BoundFrames x = new BoundFrames();
        Scene.write(x, "1+0*1:111");
        return x;
    }

    private static BoundFrames asked() {
        BoundFrames x = Scene.withAir("9+0*9:8");
        x.open(0, 1, 4, 2, 3);
        return x;
    }

    private static BoundFrames yes() {
        BoundFrames x = asked();
        x.deliver(0, 0);
        return x;
    }

    private static BoundFrames askLost() {
        BoundFrames x = asked();
        x.lose(0);
        return x;
    }

    private static BoundFrames fed() {
        BoundFrames x = Scene.openAt(0, 1, 12, 2, 3);
        Scene.feed(x, 0, 1, 24, 1);
        return x;
    }

    private static BoundFrames bundled() {
        BoundFrames x = fed();
        x.bundle(0);
        return x;
    }

    private static BoundFrames answer() {
        BoundFrames x = bundled();
        x.deliver(0, 1 + 8);
        return x;
    }

    private static BoundFrames answerLost() {
        BoundFrames x = answer();
        x.lose(0);
        return x;
    }

    private static BoundFrames barDue() {
        BoundFrames x = answer();
        x.deliver(0, 0);
        x.bundle(0);
        x.deliver(0, 2);
        x.expire(0);
        return x;
    }

    private static BoundFrames bar() {
        BoundFrames x = barDue();
        x.bundle(0);
        return x;
    }

    private static BoundFrames ended() {
        BoundFrames x = answer();
        x.deliver(0, 0);
        x.close(0);
        return x;
    }

    private static BoundFrames endLost() {
        BoundFrames x = ended();
        x.lose(0);
        return x;
    }

    private static BoundFrames asleep() {
        BoundFrames x = Scene.withAir("2+1*9:8");
        Scene.setUp(x, 0, 1, 4, 2, 3);
        Scene.feed(x, 0, 1, 3, 1);
        x.pass(2);
        return x;
    }

    private static BoundFrames barAsleep() {
        BoundFrames x = Scene.withAir("2+1*9:8");
        Scene.setUp(x, 0, 0, 4, 1, 3);
        Scene.feed(x, 0, 1, 3, 1);
        x.bundle(0);
        x.pass(2);
        x.expire(0);
        return x;
    }

    /** The first one was given, and does not fit any more; a short one waits in the QUEUE. */
    private static BoundFrames tooLong() {
        BoundFrames x = Scene.withAir("2+1*5:8");
        Scene.setUp(x, 0, 0, 4, 2, 3);
        x.feed(0, 1, 6);
        x.bundle(0);
        x.expire(0);
        x.feed(0, 2, 1);
        x.pass(1);
        return x;
    }

    // ---- texts

    private static void letter() {
        for (int code : new int[] {31, 127, 0, -1, LEAST, MOST}) {
            NEW.outside("letter " + code, x -> x.letter(code));
            FULL_PAGE.outside("OUTSIDE ahead of FULL: letter " + code, x -> x.letter(code));
        }
        FULL_PAGE.full("letter 32", x -> x.letter(32));
        FULL_PAGE.full("letter 126", x -> x.letter(126));
    }

    private static void air() {
        NEW.state("air", BoundFrames::air);
        FULL_PAGE.state("air", BoundFrames::air);
        for (Refusal r : WITH_AIR) {
            r.state("air of an empty page", BoundFrames::air);
        }
        at("with a page that is none, and an ANSWER", () -> {
            BoundFrames x = answer();
            Scene.write(x, "0+0*1:1");
            return x;
        }).state("air", BoundFrames::air);
    }

    // ---- the near end

    private static void openWithoutAir() {
        NEW.state("open", x -> x.open(0, 0, 1, 1, 1));
        NEW.state("STATE ahead of UNKNOWN: open", x -> x.open(4, 0, 1, 1, 1));
        NEW.state("STATE ahead of OUTSIDE: open", x -> x.open(0, 3, 0, 0, 0));
        FULL_PAGE.state("open", x -> x.open(0, 0, 1, 1, 1));
    }

    private static void openOfNoClass() {
        for (int of : NO_CLASS) {
            BARE.unknown("open " + of, x -> x.open(of, 0, 1, 1, 1));
            BARE.unknown("UNKNOWN ahead of OUTSIDE: open " + of, x -> x.open(of, 3, 16, 5, 21));
            IDLE.unknown("open " + of, x -> x.open(of, 0, 1, 1, 1));
        }
    }

    /** One argument beyond its limit each time; OUTSIDE is ahead of STATE. */
    private static void openOutside() {
        int[][] wrong = {{-1, 1, 1, 1}, {3, 1, 1, 1}, {LEAST, 1, 1, 1}, {MOST, 1, 1, 1}, {0, 0, 1, 1}, {0, 16, 1, 1},
            {0, LEAST, 1, 1}, {0, MOST, 1, 1}, {0, 1, 0, 1}, {0, 1, 5, 1}, {0, 1, LEAST, 1}, {0, 1, MOST, 1},
            {0, 1, 1, 0}, {0, 1, 1, 21}, {0, 1, 1, LEAST}, {0, 1, 1, MOST}};
        for (int[] w : wrong) {
            String name = "open of " + w[0] + "," + w[1] + "," + w[2] + "," + w[3];
            for (Refusal r : new Refusal[] {BARE, ASK, IDLE, BUNDLE, END}) {
                r.outside(name, x -> x.open(0, w[0], w[1], w[2], w[3]));
            }
        }
    }

    /** "it is ASKED or OPEN, or a LETTER of the CLASS is under way". */
    private static void openState() {
        for (Refusal r : new Refusal[] {ASK, YES, ASK_LOST, END}) {
            r.state("open", x -> x.open(0, 0, 1, 1, 1));
        }
        for (Refusal r : WITH_SESSION) {
            r.state("open", x -> x.open(0, 2, 15, 4, 20));
        }
        BoundFrames x = endLost();
        check.due("open with END lost", x.open(0, 0, 1, 1, 1), 1);
        x = ended();
        check.due("open of another CLASS with END under way", x.open(1, 0, 1, 1, 1), 2);
        x = ended();
        x.deliver(0, 0);
        check.due("open behind END", x.open(0, 0, 1, 1, 1), 1);
    }

    private static void close() {
        NEW.unknown("close", x -> x.close(0));
        for (int of : NO_CLASS) {
            NEW.unknown("close " + of, x -> x.close(of));
            IDLE.unknown("close " + of, x -> x.close(of));
        }
        for (Refusal r : new Refusal[] {BARE, ASK, YES, ASK_LOST, END, END_LOST}) {
            r.state("close of what is not OPEN", x -> x.close(0));
        }
        for (Refusal r : AWAITING) {
            r.state("close of what AWAITS", x -> x.close(0));
        }
        IDLE.state("close of another CLASS", x -> x.close(1));
    }

    private static void feed() {
        NEW.unknown("feed", x -> x.feed(0, 1, 1));
        NEW.unknown("UNKNOWN ahead of OUTSIDE: feed", x -> x.feed(0, 0, 0));
        for (int of : NO_CLASS) {
            IDLE.unknown("feed " + of, x -> x.feed(of, 1, 1));
            IDLE.unknown("UNKNOWN ahead of OUTSIDE: feed " + of, x -> x.feed(of, 0, 21));
        }
        int[][] wrong = {{0, 1}, {1000, 1}, {-1, 1}, {LEAST, 1}, {MOST, 1}, {1, 0}, {1, 21}, {1, -1}, {1, LEAST}, {1, MOST}};
        for (int[] w : wrong) {
            String name = "feed of " + w[0] + "," + w[1];
            IDLE.outside(name, x -> x.feed(0, w[0], w[1]));
            BARE.outside("OUTSIDE ahead of STATE: " + name, x -> x.feed(0, w[0], w[1]));
            FED.outside("OUTSIDE ahead of FULL: " + name, x -> x.feed(0, w[0], w[1]));
        }
        for (Refusal r : new Refusal[] {BARE, ASK, YES, ASK_LOST, END, END_LOST}) {
            r.state("feed of what is not OPEN", x -> x.feed(0, 1, 1));
        }
        FED.full("feed", x -> x.feed(0, 1, 1));
        FED.full("feed", x -> x.feed(0, 999, 20));
        FED.state("feed of another CLASS", x -> x.feed(1, 1, 1));
    }

    private static void bundle() {
        NEW.unknown("bundle", x -> x.bundle(0));
        for (int of : NO_CLASS) {
            NEW.unknown("bundle " + of, x -> x.bundle(of));
            FED.unknown("bundle " + of, x -> x.bundle(of));
        }
        for (Refusal r : new Refusal[] {BARE, ASK, YES, ASK_LOST, END, END_LOST}) {
            r.state("bundle of what is not OPEN", x -> x.bundle(0));
        }
        for (Refusal r : AWAITING) {
            r.state("bundle of what AWAITS", x -> x.bundle(0));
        }
        IDLE.state("bundle of nothing", x -> x.bundle(0));
        ASLEEP.state("bundle", x -> x.bundle(0));
        BAR_ASLEEP.state("bundle", x -> x.bundle(0));
        TOO_LONG.state("bundle", x -> x.bundle(0));
        FED.state("bundle of another CLASS", x -> x.bundle(1));
    }

    private static void expire() {
        NEW.unknown("expire", x -> x.expire(0));
        for (int of : NO_CLASS) {
            NEW.unknown("expire " + of, x -> x.expire(of));
            BUNDLE.unknown("expire " + of, x -> x.expire(of));
        }
        for (Refusal r : new Refusal[] {BARE, IDLE, FED, BAR_DUE, END, END_LOST, ASLEEP, BAR_ASLEEP}) {
            r.state("expire of what neither AWAITS nor is ASKED", x -> x.expire(0));
        }
        BUNDLE.state("expire of another CLASS", x -> x.expire(1));
        ASK.state("expire of another CLASS", x -> x.expire(1));
    }

    // ---- the air

    private static void deliver() {
        NEW.unknown("deliver", x -> x.deliver(0, 0));
        for (Refusal r : new Refusal[] {BARE, IDLE, ASK_LOST, ANSWER_LOST, END_LOST}) {
            r.unknown("deliver of none", x -> x.deliver(0, 0));
            r.unknown("UNKNOWN ahead of OUTSIDE: deliver of none", x -> x.deliver(0, 256));
        }
        for (Refusal r : new Refusal[] {ASK, YES, BUNDLE, ANSWER, BAR, END}) {
            for (int place : new int[] {-1, 1, LEAST, MOST}) {
                r.unknown("deliver " + place, x -> x.deliver(place, 0));
                r.unknown("UNKNOWN ahead of OUTSIDE: deliver " + place, x -> x.deliver(place, -1));
            }
            for (int damage : new int[] {-1, 256, LEAST, MOST}) {
                r.outside("damage " + damage, x -> x.deliver(0, damage));
            }
        }
    }

    private static void lose() {
        NEW.unknown("lose", x -> x.lose(0));
        for (Refusal r : new Refusal[] {BARE, IDLE, ASK_LOST, ANSWER_LOST, END_LOST}) {
            r.unknown("lose of none", x -> x.lose(0));
        }
        for (Refusal r : new Refusal[] {ASK, YES, BUNDLE, ANSWER, BAR, END}) {
            for (int place : new int[] {-1, 1, LEAST, MOST}) {
                r.unknown("lose " + place, x -> x.lose(place));
            }
        }
    }

    private static void pass() {
        for (int n : new int[] {0, 61, -1, LEAST, MOST}) {
            NEW.outside("OUTSIDE ahead of STATE: pass " + n, x -> x.pass(n));
            ANSWER.outside("pass " + n, x -> x.pass(n));
            ASLEEP.outside("pass " + n, x -> x.pass(n));
        }
        NEW.state("pass 1", x -> x.pass(1));
        NEW.state("pass 60", x -> x.pass(60));
        FULL_PAGE.state("pass 1", x -> x.pass(1));
    }

    // ---- what is told

    private static void about() {
        for (int what : new int[] {-1, 7, LEAST, MOST}) {
            NEW.outside("OUTSIDE ahead of STATE: about " + what, x -> x.about(what));
            BUNDLE.outside("about " + what, x -> x.about(what));
        }
        for (int what = 0; what < 7; what++) {
            int w = what;
            NEW.state("about " + w, x -> x.about(w));
        }
    }

    private static void near() {
        NEW.unknown("near", x -> x.near(0, 0));
        NEW.unknown("UNKNOWN ahead of OUTSIDE: near", x -> x.near(0, 10));
        for (int of : NO_CLASS) {
            BUNDLE.unknown("near " + of, x -> x.near(of, 0));
            BUNDLE.unknown("UNKNOWN ahead of OUTSIDE: near " + of, x -> x.near(of, 10));
        }
        for (Refusal r : new Refusal[] {BARE, ASK, BUNDLE}) {
            for (int what : new int[] {-1, 10, LEAST, MOST}) {
                r.outside("near of what " + what, x -> x.near(0, what));
            }
        }
    }

    private static void given() {
        NEW.unknown("given", x -> x.given(0, 0, 0));
        for (Refusal r : new Refusal[] {BARE, ASK, YES, ASK_LOST, IDLE, FED, END, END_LOST}) {
            r.unknown("given of nothing", x -> x.given(0, 0, 0));
            r.unknown("UNKNOWN ahead of OUTSIDE: given of nothing", x -> x.given(0, 0, 5));
        }
        for (int of : NO_CLASS) {
            BUNDLE.unknown("given " + of, x -> x.given(of, 0, 0));
        }
        BUNDLE.unknown("given of another CLASS", x -> x.given(1, 0, 0));
        for (int place : new int[] {-1, 8, LEAST, MOST}) {
            BUNDLE.unknown("given at " + place, x -> x.given(0, place, 0));
            BUNDLE.unknown("UNKNOWN ahead of OUTSIDE: given at " + place, x -> x.given(0, place, -1));
        }
        for (int what : new int[] {-1, 5, LEAST, MOST}) {
            BUNDLE.outside("given of what " + what, x -> x.given(0, 0, what));
            BUNDLE.outside("given of what " + what, x -> x.given(0, 7, what));
        }
    }

    private static void far() {
        NEW.unknown("far", x -> x.far(0, 0));
        NEW.unknown("UNKNOWN ahead of OUTSIDE: far", x -> x.far(0, 9));
        for (int of : NO_CLASS) {
            ANSWER.unknown("far " + of, x -> x.far(of, 0));
            ANSWER.unknown("UNKNOWN ahead of OUTSIDE: far " + of, x -> x.far(of, 9));
        }
        for (Refusal r : new Refusal[] {BARE, ASK, ANSWER}) {
            for (int what : new int[] {-1, 9, LEAST, MOST}) {
                r.outside("far of what " + what, x -> x.far(0, what));
            }
        }
    }

    private static void held() {
        NEW.unknown("held", x -> x.held(0, 0));
        BARE.unknown("held of no SESSION", x -> x.held(0, 0));
        ASK.unknown("held of no SESSION yet", x -> x.held(0, 0));
        for (int of : NO_CLASS) {
            ANSWER.unknown("held " + of, x -> x.held(of, 0));
        }
        for (int place : new int[] {-1, 12, LEAST, MOST}) {
            ANSWER.unknown("held at " + place, x -> x.held(0, place));
        }
        for (int place : new int[] {-1, 4, LEAST, MOST}) {
            YES.unknown("held at " + place, x -> x.held(0, place));
        }
    }

    private static void as() {
        NEW.unknown("as", x -> x.as(0, 0));
        NEW.unknown("UNKNOWN ahead of OUTSIDE: as", x -> x.as(0, 3));
        for (Refusal r : new Refusal[] {BARE, ASK, ASK_LOST}) {
            r.unknown("as of no SESSION", x -> x.as(0, 0));
            r.unknown("UNKNOWN ahead of OUTSIDE: as of no SESSION", x -> x.as(0, -1));
        }
        for (int of : NO_CLASS) {
            ANSWER.unknown("as " + of, x -> x.as(of, 0));
        }
        for (int kind : new int[] {-1, 3, LEAST, MOST}) {
            ANSWER.outside("as a KIND " + kind, x -> x.as(0, kind));
            END.outside("as a KIND " + kind, x -> x.as(0, kind));
        }
    }

    private static void released() {
        NEW.unknown("released", x -> x.released(0, 0));
        BARE.unknown("released of nothing", x -> x.released(0, 0));
        ANSWER.unknown("released of nothing yet", x -> x.released(0, 0));
        Refusal three = at("with three RELEASED", () -> Scene.openAt(3, 0, 12, 1, 1));
        Refusal ten = at("with ten RELEASED", () -> Scene.openAt(10, 0, 12, 1, 1));
        Refusal eleven = at("with eleven RELEASED", () -> Scene.openAt(11, 0, 12, 1, 1));
        for (int of : NO_CLASS) {
            three.unknown("released " + of, x -> x.released(of, 0));
        }
        three.unknown("released of another CLASS", x -> x.released(1, 0));
        for (int place : new int[] {-1, LEAST, MOST}) {
            three.unknown("released at " + place, x -> x.released(0, place));
        }
        three.unknown("released at 3", x -> x.released(0, 3));
        ten.unknown("released at 10", x -> x.released(0, 10));
        eleven.unknown("released at 10", x -> x.released(0, 10));
    }

    private static void under() {
        NEW.unknown("under", x -> x.under(0, 0));
        for (Refusal r : new Refusal[] {BARE, IDLE, ASK_LOST, ANSWER_LOST}) {
            r.unknown("under of none", x -> x.under(0, 0));
            r.unknown("UNKNOWN ahead of OUTSIDE: under of none", x -> x.under(0, 6));
        }
        for (Refusal r : new Refusal[] {ASK, YES, BUNDLE, ANSWER, BAR, END}) {
            for (int place : new int[] {-1, 1, LEAST, MOST}) {
                r.unknown("under " + place, x -> x.under(place, 0));
                r.unknown("UNKNOWN ahead of OUTSIDE: under " + place, x -> x.under(place, -1));
            }
            for (int what : new int[] {-1, 6, LEAST, MOST}) {
                r.outside("under of what " + what, x -> x.under(0, what));
            }
        }
    }

    private static void frame() {
        NEW.unknown("frame", x -> x.frame(0, 0, 0));
        IDLE.unknown("frame of no LETTER", x -> x.frame(0, 0, 0));
        for (Refusal r : new Refusal[] {ASK, YES, ANSWER, BAR, END}) {
            r.unknown("frame of what has none", x -> x.frame(0, 0, 0));
            r.unknown("UNKNOWN ahead of OUTSIDE: frame of what has none", x -> x.frame(0, 0, 4));
        }
        for (int place : new int[] {-1, 1, LEAST, MOST}) {
            BUNDLE.unknown("frame of LETTER " + place, x -> x.frame(place, 0, 0));
        }
        for (int frame : new int[] {-1, 8, LEAST, MOST}) {
            BUNDLE.unknown("frame " + frame, x -> x.frame(0, frame, 0));
            BUNDLE.unknown("UNKNOWN ahead of OUTSIDE: frame " + frame, x -> x.frame(0, frame, 4));
        }
        for (int what : new int[] {-1, 4, LEAST, MOST}) {
            BUNDLE.outside("frame of what " + what, x -> x.frame(0, 0, what));
            BUNDLE.outside("frame of what " + what, x -> x.frame(0, 7, what));
        }
    }

    private static void count() {
        for (int what : new int[] {-1, 10, LEAST, MOST}) {
            NEW.outside("count " + what, x -> x.count(what));
            ANSWER.outside("count " + what, x -> x.count(what));
        }
    }
}
