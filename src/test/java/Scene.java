/** Ways to bring a new object to where a test begins. */
final class Scene {
    private Scene() {
    }

    /** Writes a text behind THE PAGE. */
    static void write(BoundFrames x, String text) {
        for (int i = 0; i < text.length(); i++) {
            x.letter(text.charAt(i));
        }
    }

    /** A new object with an AIR. */
    static BoundFrames withAir(String text) {
        BoundFrames x = new BoundFrames();
        write(x, text);
        x.air();
        return x;
    }

    /** Sets up a SESSION; no other LETTER may be under way, and the far end is AWAKE. */
    static void setUp(BoundFrames x, int of, int kind, int window, int tries, int hold) {
        x.open(of, kind, window, tries, hold);
        x.deliver(0, 0);
        x.deliver(0, 0);
    }

    /** Feeds VALUES from first on, each of the LENGTH. */
    static void feed(BoundFrames x, int of, int first, int howMany, int length) {
        for (int i = 0; i < howMany; i++) {
            x.feed(of, first + i, length);
        }
    }

    /** A BUNDLE or a BAR goes, arrives with DAMAGE, and its ANSWER arrives. */
    static void exchange(BoundFrames x, int of, int damage) {
        x.bundle(of);
        x.deliver(0, damage);
        x.deliver(0, 0);
    }

    /** Feeds so many and brings them over whole, so that START, NEXT and FROM are so much farther. */
    static void advance(BoundFrames x, int of, int howMany) {
        int most = Math.max(1, Math.min(x.about(3), x.near(of, 1)));
        for (int left = howMany; left > 0; left -= most) {
            feed(x, of, 1, Math.min(left, most), 1);
            exchange(x, of, 0);
        }
    }

    /** An OPEN SESSION of CLASS 0 at a START: the AIR is wide, and no LETTER is under way. */
    static BoundFrames openAt(int start, int kind, int window, int tries, int hold) {
        BoundFrames x = withAir("9+0*9:8");
        setUp(x, 0, kind, window, tries, hold);
        advance(x, 0, start);
        return x;
    }
}
