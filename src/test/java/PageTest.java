/** Promises 1 to 5: a new object, letter, blank, fault, air. */
public final class PageTest {
    private static final Check check = new Check("PageTest");

    public static void main(String[] args) {
        newObject();
        letters();
        blanks();
        faults();
        airs();
        anotherAir();
        check.end();
    }

    private static void newObject() {
        BoundFrames x = new BoundFrames();
        check.due("about(0) of a new object", x.about(0), BoundFrames.STATE);
        check.due("open of a new object", x.open(0, 0, 1, 1, 1), BoundFrames.STATE);
        check.due("near of a new object", x.near(0, 0), BoundFrames.UNKNOWN);
        check.due("far of a new object", x.far(0, 0), BoundFrames.UNKNOWN);
        check.due("fault of an empty page", x.fault(), 0);
        check.due("blank of an empty page", x.blank(), 0);
        check.due("air of an empty page", x.air(), BoundFrames.STATE);
        long h = 1543;
        for (int what = 0; what < 10; what++) {
            check.due("count of a new object", x.count(what), 0);
            h = 31 * h;
        }
        check.due("digest of a new object", x.digest(), h);
    }

    private static void letters() {
        BoundFrames x = new BoundFrames();
        check.due("letter(31)", x.letter(31), BoundFrames.OUTSIDE);
        check.due("letter(127)", x.letter(127), BoundFrames.OUTSIDE);
        check.due("letter(-1)", x.letter(-1), BoundFrames.OUTSIDE);
        check.due("letter(MAX)", x.letter(Integer.MAX_VALUE), BoundFrames.OUTSIDE);
        check.due("letter(32)", x.letter(32), 1);
        check.due("letter(126)", x.letter(126), 2);
        for (int i = 3; i <= 9; i++) {
            check.due("letter " + i, x.letter('a'), i);
        }
        check.due("a tenth letter", x.letter('a'), BoundFrames.FULL);
        check.due("a tenth letter that is outside", x.letter(31), BoundFrames.OUTSIDE);
        check.due("count(8)", x.count(8), 9);
    }

    private static void blanks() {
        BoundFrames x = new BoundFrames();
        Scene.write(x, "abcdefghi");
        check.due("blank of nine", x.blank(), 9);
        check.due("blank of none", x.blank(), 0);
        check.due("letter behind blank", x.letter('1'), 1);
        check.due("count(8) behind blank", x.count(8), 1);
    }

    private static void faults() {
        String[] texts = {"1+0*1:1", "9+9*9:8", "1", "1+", "1+0", "1+0*", "1+0*1", "1+0*1:", "0", "x", "1-", "1+x",
            "1+0+", "1+0*0", "1+0*1;", "1+0*1:0", "1+0*1:9", "1+0*1:1 ", "1+0*1:18", "1+0*1:188", " 1+0*1:1", ":", "/"};
        int[] places = {7, 7, 1, 2, 3, 4, 5, 6, 0, 0, 1, 2, 3, 4, 5, 6, 6, 7, 7, 7, 0, 0, 0};
        for (int i = 0; i < texts.length; i++) {
            BoundFrames x = new BoundFrames();
            Scene.write(x, texts[i]);
            check.due("fault of " + texts[i], x.fault(), places[i]);
            check.due("letters behind fault of " + texts[i], x.count(8), texts[i].length());
        }
    }

    private static void airs() {
        String[] none = {"", "1", "1+0*1:", "0+1*1:1", "1+0*0:1", "1+0*1:0", "1+0*1:9", "1+0*1:1 ", "1+0*1:11", "1x0*1:1"};
        for (String text : none) {
            BoundFrames x = new BoundFrames();
            Scene.write(x, text);
            long before = x.digest();
            check.due("air of " + text, x.air(), BoundFrames.STATE);
            check.due("digest behind air of " + text, x.digest(), before);
        }
        String[] texts = {"1+0*1:1", "9+9*9:8", "3+4*5:6"};
        for (String text : texts) {
            BoundFrames x = new BoundFrames();
            Scene.write(x, text);
            int on = text.charAt(0) - '0';
            int off = text.charAt(2) - '0';
            check.due("air of " + text, x.air(), on + off);
            check.due("letters behind air", x.count(8), 0);
            check.due("ON", x.about(0), on);
            check.due("OFF", x.about(1), off);
            check.due("RATE", x.about(2), text.charAt(4) - '0');
            check.due("BOUND", x.about(3), text.charAt(6) - '0');
            check.due("TIME", x.about(4), 0);
            check.due("airs read", x.count(9), 1);
        }
    }

    /** All that was is gone with another AIR, but not with a text that is none. */
    private static void anotherAir() {
        BoundFrames x = Scene.withAir("9+0*9:8");
        Scene.setUp(x, 0, 1, 4, 1, 20);
        Scene.feed(x, 0, 10, 5, 1);
        x.bundle(0);
        x.deliver(0, 1);
        x.lose(0);
        x.expire(0);
        x.open(1, 0, 4, 2, 5);
        x.pass(7);
        check.due("WAITED ahead of another air", x.far(0, 7), 7);
        Scene.write(x, "1+0*1:9");
        long before = x.digest();
        check.due("air that is none", x.air(), BoundFrames.STATE);
        check.due("digest behind it", x.digest(), before);
        x.blank();
        Scene.write(x, "2+3*4:5");
        check.due("another air", x.air(), 5);
        check.due("TIME of another air", x.about(4), 0);
        for (int what = 0; what < 9; what++) {
            check.due("count(" + what + ") of another air", x.count(what), 0);
        }
        check.due("airs read", x.count(9), 2);
        for (int of = 0; of < 4; of++) {
            check.due("near of another air", x.near(of, 0), 0);
            check.due("far of another air", x.far(of, 0), 0);
            check.due("released of another air", x.released(of, 0), BoundFrames.UNKNOWN);
        }
        Scene.setUp(x, 0, 0, 4, 1, 5);
        check.due("START of a new session", x.near(0, 3), 0);
        check.due("NEXT of a new session", x.near(0, 4), 0);
        check.due("QUEUE of a new session", x.near(0, 5), 0);
        check.due("AWAITS of a new session", x.near(0, 7), 0);
        check.due("BAR of a new session", x.near(0, 8), 0);
        check.due("LOST of a new session", x.near(0, 9), 0);
        check.due("FROM of a new session", x.far(0, 3), 0);
        check.due("bits of a new session", x.far(0, 5), 0);
        check.due("HELD of a new session", x.far(0, 6), 0);
        check.due("WAITED of a new session", x.far(0, 7), 0);
    }
}
