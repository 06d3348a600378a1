/** The edges of promises 1 to 5 and of the text of an AIR: each method looks at one sentence. */
public final class TextEdgesTest {
    private static final Check check = new Check("TextEdgesTest");
    private static final String[] ALLOWED = {"123456789", "+", "0123456789", "*", "123456789", ":", "12345678"};
    private static final String RIGHT = "1+0*1:1";

    public static void main(String[] args) {
        noAirAtFirst();
        codesOfALetter();
        nineLettersAtMost();
        blankOfNoneOneAndNine();
        everyCodeAtEveryPlace();
        faultIsTheFirstOne();
        nothingStandsBehindAnAir();
        everyAir();
        tooShortOrTooLongIsNoAir();
        thePageIsEmptyThen();
        aTextThatIsNoneStays();
        anotherAirTakesAllAway();
        thePageIsNotTouchedByTheRest();
        check.end();
    }

    private static BoundFrames page(String text) {
        BoundFrames x = new BoundFrames();
        Scene.write(x, text);
        return x;
    }

    /** "No AIR": every call that needs one is refused, and the counts are 0. */
    private static void noAirAtFirst() {
        BoundFrames x = new BoundFrames();
        check.due("open", x.open(0, 0, 1, 1, 1), BoundFrames.STATE);
        check.due("pass", x.pass(1), BoundFrames.STATE);
        check.due("about", x.about(0), BoundFrames.STATE);
        long[] unknown = {x.close(0), x.feed(0, 1, 1), x.bundle(0), x.expire(0), x.deliver(0, 0), x.lose(0), x.near(0, 0),
            x.given(0, 0, 0), x.far(0, 0), x.held(0, 0), x.as(0, 0), x.released(0, 0), x.under(0, 0), x.frame(0, 0, 0)};
        for (int i = 0; i < unknown.length; i++) {
            check.due("call " + i + " without an AIR", unknown[i], BoundFrames.UNKNOWN);
        }
        check.due("fault", x.fault(), 0);
        check.due("count 9", x.count(9), 0);
        check.due("the first letter", x.letter('1'), 1);
    }

    /** "OUTSIDE: code (32 to 126)". */
    private static void codesOfALetter() {
        for (int code = -300; code <= 300; code++) {
            boolean right = code >= 32 && code <= 126;
            check.due("letter " + code, new BoundFrames().letter(code), right ? 1 : BoundFrames.OUTSIDE);
        }
    }

    /** "how many THE PAGE has"; "FULL: above 9". */
    private static void nineLettersAtMost() {
        BoundFrames x = new BoundFrames();
        for (int i = 1; i <= 9; i++) {
            check.due("letter " + i, x.letter('x'), i);
            check.due("THE PAGE", x.count(8), i);
        }
        check.due("the tenth letter", x.letter('x'), BoundFrames.FULL);
        check.due("THE PAGE behind it", x.count(8), 9);
        x.blank();
        for (int i = 1; i <= 9; i++) {
            check.due("letter behind blank " + i, x.letter('x'), i);
        }
        check.due("the tenth letter behind blank", x.letter('x'), BoundFrames.FULL);
    }

    /** "THE PAGE is empty: how many letters it had". */
    private static void blankOfNoneOneAndNine() {
        for (int size = 0; size <= 9; size++) {
            BoundFrames x = page("123456789".substring(0, size));
            check.due("blank of " + size, x.blank(), size);
            check.due("THE PAGE behind it", x.count(8), 0);
            check.due("fault behind it", x.fault(), 0);
            check.due("blank once more", x.blank(), 0);
        }
    }

    /** ON 1 to 9, '+', OFF 0 to 9, '*', RATE 1 to 9, ':', BOUND 1 to 8: and no other letter there. */
    private static void everyCodeAtEveryPlace() {
        for (int place = 0; place < 7; place++) {
            for (int code = 32; code <= 126; code++) {
                String text = RIGHT.substring(0, place) + (char) code;
                boolean right = ALLOWED[place].indexOf(code) >= 0;
                check.due("fault of " + text, page(text).fault(), right ? place + 1 : place);
                String whole = text + RIGHT.substring(place + 1);
                check.due("fault of " + whole, page(whole).fault(), right ? 7 : place);
                int on = whole.charAt(0) - '0' + whole.charAt(2) - '0';
                check.due("air of " + whole, page(whole).air(), right ? on : BoundFrames.STATE);
            }
        }
    }

    /** "The place of the first letter .. that no AIR has there": others behind it do not count. */
    private static void faultIsTheFirstOne() {
        String[] texts = {"0+0*1:0", "1-0*1:0", "1+xxxxx", "1+0x1x1", "1+0*0:x", "1+0*1;9", "9+9*9:9", "0", "1+0*1:1xx"};
        int[] places = {0, 1, 2, 3, 4, 5, 6, 0, 7};
        for (int i = 0; i < texts.length; i++) {
            check.due("fault of " + texts[i], page(texts[i]).fault(), places[i]);
        }
    }

    /** An AIR has seven letters: whatever comes as the eighth is a fault at 7; a page without fault tells its size. */
    private static void nothingStandsBehindAnAir() {
        for (int size = 0; size <= 7; size++) {
            check.due("fault of the first " + size, page(RIGHT.substring(0, size)).fault(), size);
        }
        for (int code = 32; code <= 126; code++) {
            check.due("fault of an eighth letter " + code, page(RIGHT + (char) code).fault(), 7);
            check.due("fault of a ninth letter " + code, page(RIGHT + "1" + (char) code).fault(), 7);
        }
    }

    private static void everyAir() {
        for (int number = 0; number < 9 * 10 * 9 * 8; number++) {
            int on = 1 + number % 9;
            int off = number / 9 % 10;
            int rate = 1 + number / 90 % 9;
            int bound = 1 + number / 810;
            String text = on + "+" + off + "*" + rate + ":" + bound;
            BoundFrames x = page(text);
            check.due("air of " + text, x.air(), on + off);
            int[] about = {on, off, rate, bound, 0, 1, on};
            for (int what = 0; what < 7; what++) {
                check.due("about " + what + " of " + text, x.about(what), about[what]);
            }
        }
    }

    /** "STATE: it is none": also if all of its letters are right, but there are fewer or more. */
    private static void tooShortOrTooLongIsNoAir() {
        for (int size = 0; size < 7; size++) {
            check.due("air of the first " + size, page(RIGHT.substring(0, size)).air(), BoundFrames.STATE);
        }
        check.due("air of seven", page(RIGHT).air(), 1);
        check.due("air of eight", page(RIGHT + "1").air(), BoundFrames.STATE);
        check.due("air of nine", page(RIGHT + "11").air(), BoundFrames.STATE);
    }

    /** "THE PAGE is empty then". */
    private static void thePageIsEmptyThen() {
        BoundFrames x = page("9+9*9:8");
        check.due("air", x.air(), 18);
        check.due("letters", x.count(8), 0);
        check.due("fault", x.fault(), 0);
        check.due("blank", x.blank(), 0);
        check.due("the empty page is no AIR", x.air(), BoundFrames.STATE);
        check.due("ON stays", x.about(0), 9);
        check.due("airs read", x.count(9), 1);
        for (int i = 1; i <= 9; i++) {
            check.due("letter " + i, x.letter('1'), i);
        }
    }

    private static void aTextThatIsNoneStays() {
        BoundFrames x = page("1+0*1:9");
        check.due("air", x.air(), BoundFrames.STATE);
        check.due("letters", x.count(8), 7);
        check.due("fault", x.fault(), 6);
        check.due("airs read", x.count(9), 0);
        check.due("still no AIR", x.about(0), BoundFrames.STATE);
        x = Scene.withAir("2+3*4:5");
        x.pass(3);
        Scene.write(x, "1+0*1:");
        check.due("air that is too short", x.air(), BoundFrames.STATE);
        check.due("the AIR ahead of it stays", x.about(1), 3);
        check.due("TIME goes on", x.about(4), 3);
        check.due("the page goes on", x.letter('1'), 7);
        check.due("air then", x.air(), 1);
        check.due("TIME is 0", x.about(4), 0);
    }

    /** A SESSION of each stage, and LETTERS of most SORTS under way. */
    private static BoundFrames busy() {
        BoundFrames x = Scene.withAir("8+9*9:8");
        Scene.setUp(x, 0, 1, 6, 1, 9);
        Scene.feed(x, 0, 10, 9, 1);
        Scene.exchange(x, 0, 1 + 4);
        x.bundle(0);
        Scene.setUp(x, 1, 2, 6, 1, 9);
        return x;
    }

    private static BoundFrames busier() {
        BoundFrames x = Scene.withAir("8+9*9:8");
        Scene.setUp(x, 1, 1, 6, 2, 9);
        Scene.setUp(x, 2, 1, 6, 2, 9);
        Scene.feed(x, 1, 10, 7, 1);
        Scene.feed(x, 2, 20, 7, 1);
        x.bundle(1);
        x.deliver(0, 1 + 4);
        x.bundle(2);
        x.open(0, 1, 5, 3, 4);
        x.open(3, 2, 5, 3, 4);
        x.deliver(3, 0);
        x.pass(3);
        x.letter('z');
        x.blank();
        return x;
    }

    /** "another one is gone, with all that was; TIME is 0": it is as if nothing had been behind the one ahead of it. */
    private static void anotherAirTakesAllAway() {
        Refusal.Scenery[] all = {TextEdgesTest::busy, TextEdgesTest::busier, () -> Scene.openAt(63, 0, 12, 1, 1)};
        String told = Told.of(anotherAir(Scene.withAir("1+0*1:1")));
        String playedOut = openAndPlay(anotherAir(Scene.withAir("1+0*1:1")));
        for (int i = 0; i < all.length; i++) {
            check.holds("all is as new " + i, told.equals(Told.of(anotherAir(all[i].make()))));
            check.holds("and goes on as new " + i, playedOut.equals(openAndPlay(anotherAir(all[i].make()))));
        }
    }

    private static BoundFrames anotherAir(BoundFrames x) {
        Scene.write(x, "7+2*5:6");
        check.due("another air", x.air(), 9);
        check.due("airs read", x.count(9), 2);
        return x;
    }

    private static String openAndPlay(BoundFrames x) {
        for (int of = 0; of < 4; of++) {
            x.open(of, of % 3, 4, 2, 3);
        }
        for (int i = 0; i < 8; i++) {
            x.deliver(0, 0);
        }
        for (int of = 0; of < 4; of++) {
            Scene.feed(x, of, 100 * of + 1, 5, 2);
            x.bundle(of);
        }
        for (int of = 0; of < 4; of++) {
            x.deliver(0, 1);
        }
        return Told.playedOut(x) + Told.of(x);
    }

    private static void thePageIsNotTouchedByTheRest() {
        BoundFrames x = Scene.withAir("9+0*9:8");
        Scene.write(x, " ~1");
        Scene.setUp(x, 0, 1, 4, 1, 1);
        Scene.feed(x, 0, 1, 3, 1);
        Scene.exchange(x, 0, 1);
        Scene.exchange(x, 0, 0);
        x.pass(60);
        x.close(0);
        x.lose(0);
        check.due("letters", x.count(8), 3);
        check.due("the next letter", x.letter('2'), 4);
        check.due("fault", x.fault(), 0);
        check.due("blank", x.blank(), 4);
    }
}
