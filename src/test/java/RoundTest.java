/** NUMBERS around 63 and 0, for every START from which a SPAN comes round: "behind 63 comes 0". */
public final class RoundTest {
    private static final Check check = new Check("RoundTest");
    private static final int NONE = BoundFrames.NONE;

    public static void main(String[] args) {
        for (int start = 50; start <= 66; start++) {
            numbersAreGiven(start);
            answersComeRound(start);
            strictComesRound(start);
            looseComesRound(start);
            hastyComesRound(start);
            doubledBehindFrom(start);
            givenUpAndBarred(start);
            barBehindFrom(start);
            markForgets(start);
            endComesRound(start);
        }
        onceAndTwiceRound();
        checksOfNumbers();
        windowsOfOneComeRound();
        check.end();
    }

    private static int round(int number) {
        return number % 64;
    }

    /** START and the seven NUMBERS behind it, in given() and in the SUB-FRAMES. */
    private static void numbersAreGiven(int start) {
        BoundFrames x = Scene.openAt(start, 0, 12, 4, 1);
        check.due("START", x.near(0, 3), round(start));
        check.due("NEXT", x.near(0, 4), round(start));
        check.due("FROM", x.far(0, 3), round(start));
        check.due("nothing is given", x.given(0, 0, 0), BoundFrames.UNKNOWN);
        Scene.feed(x, 0, 101, 9, 2);
        check.due("bundle", x.bundle(0), 8);
        check.due("START stays", x.near(0, 3), round(start));
        check.due("NEXT", x.near(0, 4), round(start + 8));
        check.due("not DONE", x.near(0, 6), 8);
        for (int k = 0; k < 8; k++) {
            check.due("given", x.given(0, k, 0), round(start + k));
            check.due("its VALUE", x.given(0, k, 1), 101 + k);
            check.due("SUB-FRAME", x.frame(0, k, 0), round(start + k));
            check.due("its VALUE", x.frame(0, k, 1), 101 + k);
        }
        check.due("no more is given", x.given(0, 8, 0), BoundFrames.UNKNOWN);
    }

    /** A whole SPAN of twelve with every other one DONE by the bits of the ANSWERS. */
    private static void answersComeRound(int start) {
        BoundFrames x = Scene.openAt(start, 0, 12, 4, 1);
        Scene.feed(x, 0, 101, 14, 1);
        Scene.exchange(x, 0, 0x55);
        for (int k = 0; k < 8; k++) {
            check.due("DONE at " + k, x.given(0, k, 4), k % 2);
        }
        check.due("not DONE and what the SPAN leaves", x.bundle(0), 8);
        int[] ahead = {0, 2, 4, 6, 8, 9, 10, 11};
        for (int k = 0; k < 8; k++) {
            check.due("NUMBER", x.frame(0, k, 0), round(start + ahead[k]));
        }
        x.deliver(0, 1);
        check.due("MARK", x.under(0, 3), round(start));
        check.due("bits", x.under(0, 4), 0xFFE);
        x.deliver(0, 0);
        check.due("not DONE", x.near(0, 6), 1);
        Scene.exchange(x, 0, 14);
        check.due("START", x.near(0, 3), round(start + 12));
    }

    private static void strictComesRound(int start) {
        BoundFrames x = Scene.openAt(start, 0, 12, 4, 1);
        Scene.feed(x, 0, 101, 8, 1);
        Scene.exchange(x, 0, 1 + 16);
        int[] held = {NONE, 102, 103, 104, NONE, 106, 107, 108, NONE, NONE, NONE, NONE};
        for (int place = 0; place < 12; place++) {
            check.due("held", x.held(0, place), held[place]);
        }
        Scene.exchange(x, 0, 2);
        check.due("FROM", x.far(0, 3), round(start + 4));
        check.due("the latest", x.released(0, 0), 104);
        check.due("HELD", x.far(0, 6), 3);
        check.due("held", x.held(0, 1), 106);
        Scene.exchange(x, 0, 0);
        check.due("FROM", x.far(0, 3), round(start + 8));
        for (int place = 0; place < 8; place++) {
            check.due("RELEASED in order", x.released(0, place), 108 - place);
        }
        check.due("DOUBLED", x.count(5), 0);
    }

    private static void looseComesRound(int start) {
        BoundFrames x = Scene.openAt(start, 2, 12, 4, 1);
        Scene.feed(x, 0, 101, 8, 1);
        Scene.exchange(x, 0, 1 + 16);
        int[] held = {NONE, 0, 0, 0, NONE, 0, 0, 0, NONE, NONE, NONE, NONE};
        for (int place = 0; place < 12; place++) {
            check.due("HAD", x.held(0, place), held[place]);
        }
        Scene.exchange(x, 0, 2);
        check.due("FROM", x.far(0, 3), round(start + 4));
        check.due("HAD", x.held(0, 1), 0);
        check.due("the latest", x.released(0, 0), 101);
        check.due("ahead of it", x.released(0, 1), 108);
    }

    private static void hastyComesRound(int start) {
        BoundFrames x = Scene.openAt(start, 1, 12, 4, 5);
        Scene.feed(x, 0, 101, 8, 1);
        Scene.exchange(x, 0, 1 + 2 + 16);
        x.pass(4);
        check.due("WAITED", x.far(0, 7), 4);
        check.due("FROM", x.far(0, 3), round(start));
        x.pass(1);
        check.due("FROM", x.far(0, 3), round(start + 4));
        check.due("the latest", x.released(0, 0), 104);
        x.pass(5);
        check.due("FROM", x.far(0, 3), round(start + 8));
        check.due("the latest", x.released(0, 0), 108);
        Scene.exchange(x, 0, 0);
        check.due("what comes too late is DOUBLED", x.count(5), 3);
        check.due("START", x.near(0, 3), round(start + 8));
    }

    private static void doubledBehindFrom(int start) {
        BoundFrames x = Scene.openAt(start, 0, 12, 4, 1);
        Scene.feed(x, 0, 101, 8, 1);
        x.bundle(0);
        x.deliver(0, 0);
        x.expire(0);
        check.due("they go again", x.bundle(0), 8);
        x.deliver(0, 0);
        check.due("all are DOUBLED", x.far(0, 8), 8);
        check.due("FROM", x.far(0, 3), round(start + 8));
        check.due("RELEASED once", x.count(4), start + 8);
        x.deliver(0, 0);
        check.due("START", x.near(0, 3), round(start + 8));
    }

    /** What is LOST, and a BAR over it: MARK and FROM move there, what is HELD is RELEASED. */
    private static void givenUpAndBarred(int start) {
        BoundFrames x = Scene.openAt(start, 0, 12, 1, 1);
        Scene.feed(x, 0, 101, 8, 1);
        Scene.exchange(x, 0, 1 + 8 + 64);
        check.due("LOST", x.near(0, 9), 3);
        check.due("START", x.near(0, 3), round(start + 8));
        check.due("HELD", x.far(0, 6), 5);
        check.due("BAR", x.bundle(0), 0);
        check.due("its NUMBER", x.under(0, 3), round(start + 8));
        x.deliver(0, 0);
        check.due("FROM", x.far(0, 3), round(start + 8));
        check.due("MARK", x.far(0, 4), round(start + 8));
        check.due("bits", x.far(0, 5), 0);
        int[] latest = {108, 106, 105, 103, 102};
        for (int place = 0; place < 5; place++) {
            check.due("RELEASED in order", x.released(0, place), latest[place]);
        }
        x.deliver(0, 0);
        x.feed(0, 200, 1);
        check.due("bundle", x.bundle(0), 1);
        check.due("its NUMBER", x.frame(0, 0, 0), round(start + 8));
        x.deliver(0, 0);
        check.due("MARK stays", x.far(0, 4), round(start + 8));
        check.due("bits", x.far(0, 5), 1);
        check.due("the latest", x.released(0, 0), 200);
    }

    /** A BAR whose NUMBER is BEHIND FROM: FROM stays, MARK moves, and what came is told by the bits. */
    private static void barBehindFrom(int start) {
        BoundFrames x = Scene.openAt(start, 0, 12, 2, 1);
        Scene.feed(x, 0, 101, 3, 1);
        x.bundle(0);
        x.expire(0);
        Scene.feed(x, 0, 104, 3, 1);
        x.bundle(0);
        x.deliver(0, 0);
        x.expire(0);
        check.due("START", x.near(0, 3), round(start + 3));
        check.due("FROM", x.far(0, 3), round(start + 6));
        check.due("BAR", x.bundle(0), 0);
        x.deliver(0, 0);
        check.due("FROM stays", x.far(0, 3), round(start + 6));
        check.due("MARK", x.far(0, 4), round(start + 3));
        check.due("bits", x.far(0, 5), 7);
        x.deliver(0, 0);
        check.due("START behind the ANSWER", x.near(0, 3), round(start + 6));
        check.due("nothing more is LOST", x.near(0, 9), 3);
    }

    /** MARK follows twelve behind, one step with each NUMBER, and comes round itself. */
    private static void markForgets(int start) {
        BoundFrames x = Scene.openAt(start, 0, 12, 4, 1);
        int mark = start - 12;
        check.due("MARK", x.far(0, 4), mark);
        check.due("bits", x.far(0, 5), 0xFFF);
        for (int k = 1; k <= 14; k++) {
            x.feed(0, 100 + k, 1);
            x.bundle(0);
            x.deliver(0, 0);
            check.due("MARK", x.far(0, 4), round(mark + k));
            check.due("bits", x.far(0, 5), 0xFFF);
            check.due("NUMBER of the ANSWER", x.under(0, 3), round(mark + k));
            x.deliver(0, 0);
            check.due("START", x.near(0, 3), round(start + k));
        }
    }

    private static void endComesRound(int start) {
        BoundFrames x = Scene.openAt(start, 0, 12, 4, 1);
        Scene.feed(x, 0, 101, 12, 1);
        Scene.exchange(x, 0, 1);
        Scene.exchange(x, 0, 1);
        check.due("HELD", x.far(0, 6), 11);
        x.close(0);
        x.deliver(0, 0);
        for (int place = 0; place < 10; place++) {
            check.due("RELEASED in order", x.released(0, place), 112 - place);
        }
        check.due("RELEASED", x.count(4), start + 11);
    }

    private static void onceAndTwiceRound() {
        BoundFrames x = Scene.openAt(0, 0, 12, 4, 1);
        for (int number = 0; number < 130; number += 5) {
            check.due("START", x.near(0, 3), round(number));
            check.due("NEXT", x.near(0, 4), round(number));
            check.due("FROM", x.far(0, 3), round(number));
            check.due("MARK", x.far(0, 4), round(Math.max(0, number - 12)));
            Scene.advance(x, 0, 5);
        }
        check.due("RELEASED", x.count(4), 130);
        check.due("DOUBLED", x.count(5), 0);
        check.due("LOST", x.count(6), 0);
    }

    /** The CHECK has the NUMBER as it is told: that of 63 and 0, not of 64. */
    private static void checksOfNumbers() {
        BoundFrames x = Scene.openAt(60, 0, 12, 4, 1);
        BoundFrames y = Scene.openAt(0, 0, 12, 4, 1);
        Scene.feed(x, 0, 500, 4, 7);
        Scene.exchange(x, 0, 0);
        for (int k = 0; k < 8; k++) {
            x.feed(0, 600, 7);
            y.feed(0, 600, 7);
        }
        x.bundle(0);
        y.bundle(0);
        for (int k = 0; k < 8; k++) {
            check.due("NUMBER", x.frame(0, k, 0), k);
            check.due("CHECK", x.frame(0, k, 3), y.frame(0, k, 3));
        }
        check.due("all are right", x.deliver(0, 0), 8);
    }

    private static void windowsOfOneComeRound() {
        for (int kind = 0; kind < 3; kind++) {
            BoundFrames x = Scene.openAt(62, kind, 1, 1, 1);
            for (int number = 62; number < 67; number++) {
                x.feed(0, number, 1);
                check.due("bundle", x.bundle(0), 1);
                check.due("NUMBER", x.frame(0, 0, 0), round(number));
                x.deliver(0, 0);
                check.due("MARK", x.far(0, 4), round(number));
                check.due("FROM", x.far(0, 3), round(number + 1));
                check.due("RELEASED", x.released(0, 0), number);
                x.deliver(0, 0);
                check.due("START", x.near(0, 3), round(number + 1));
            }
        }
    }
}
