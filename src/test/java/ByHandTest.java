import java.lang.reflect.Field;
import java.lang.reflect.Method;
import java.util.ArrayList;
import java.util.Arrays;
import java.util.List;

/**
 * Sentences of the document that no run of calls reaches, because the near end sends nothing that is far ahead of the
 * far end, and nothing at all to a far end that is gone: the object is brought there by hand, by the names of its
 * fields; what is looked at is what the face answers.
 */
public final class ByHandTest {
    private static final Check check = new Check("ByHandTest");
    private static final int NONE = BoundFrames.NONE;
    private static final int WINDOW = 6;
    private static final int START = 40;
    /** Which places of a SPAN have something HELD, or were HAD. */
    private static final int[][] PLACES = {{}, {1}, {5}, {1, 2, 4}, {1, 2, 3, 4, 5}};

    public static void main(String[] args) throws ReflectiveOperationException {
        howFarAhead();
        behindIsHalfOfTheSpace();
        aNumberAndEveryMark();
        aNumberAndEveryFrom();
        aBarAndEveryMark();
        aBarAndEveryFrom();
        anAnswerOfEveryNumber();
        aBundleWithoutASession();
        aBarWithoutASession();
        anEndWithoutASession();
        aYesUnasked();
        anAnswerUnasked();
        check.end();
    }

    // ---- by hand

    private static Field field(Object of, String name) throws ReflectiveOperationException {
        Field field = of.getClass().getDeclaredField(name);
        field.setAccessible(true);
        return field;
    }

    private static Object nearEnd(BoundFrames x) throws ReflectiveOperationException {
        return ((Object[]) field(x, "nearEnds").get(x))[0];
    }

    private static Object farEnd(BoundFrames x) throws ReflectiveOperationException {
        return ((Object[]) field(x, "farEnds").get(x))[0];
    }

    private static Object firstLetter(BoundFrames x) throws ReflectiveOperationException {
        Object post = field(x, "post").get(x);
        return ((Object[]) field(post, "letters").get(post))[0];
    }

    private static void set(Object of, String name, int value) throws ReflectiveOperationException {
        field(of, name).setInt(of, value);
    }

    private static void set(Object of, String name, boolean value) throws ReflectiveOperationException {
        field(of, name).setBoolean(of, value);
    }

    /** FROM, and what is kept at places from there on: VALUES 101 and so on, or HAD. */
    private static void keep(BoundFrames x, int from, int[] places, boolean had) throws ReflectiveOperationException {
        Object end = farEnd(x);
        set(end, "from", from);
        int[] kept = (int[]) field(end, "kept").get(end);
        Arrays.fill(kept, NONE);
        for (int place : places) {
            kept[(from + place) % kept.length] = had ? 0 : 100 + place;
        }
        check.due("FROM by hand", x.far(0, 3), from);
        check.due("HELD by hand", x.far(0, 6), had ? 0 : places.length);
    }

    private static int number(String name, int a, int b) throws ReflectiveOperationException {
        Method method = BoundFrames.class.getDeclaredMethod(name, int.class, int.class);
        method.setAccessible(true);
        Object got = method.invoke(null, a, b);
        return got instanceof Boolean is ? (is ? 1 : 0) : (Integer) got;
    }

    // ---- NUMBERS

    private static int aheadOf(int a, int b) {
        return b >= a ? b - a : b - a + 64;
    }

    /** "B less A, and 64, if that is below 0". */
    private static void howFarAhead() throws ReflectiveOperationException {
        for (int a = 0; a < 64; a++) {
            for (int b = 0; b < 64; b++) {
                check.due("how far " + b + " is AHEAD of " + a, number("ahead", a, b), aheadOf(a, b));
            }
        }
    }

    /** "B is BEHIND A, if it is 32 or more AHEAD of it". */
    private static void behindIsHalfOfTheSpace() throws ReflectiveOperationException {
        for (int a = 0; a < 64; a++) {
            for (int b = 0; b < 64; b++) {
                check.due(b + " is BEHIND " + a, number("isBehind", b, a), aheadOf(a, b) >= 32 ? 1 : 0);
            }
        }
    }

    // ---- a NUMBER, a BAR

    /** A BUNDLE of one, with the NUMBER 40 and the VALUE 500, is under way. */
    private static BoundFrames oneUnderWay(int kind) {
        BoundFrames x = Scene.openAt(START, kind, WINDOW, 4, 20);
        x.feed(0, 500, 1);
        x.bundle(0);
        return x;
    }

    /** A BAR with the NUMBER 40 is under way. */
    private static BoundFrames barUnderWay(int kind) {
        BoundFrames x = Scene.openAt(START - 1, kind, WINDOW, 1, 20);
        x.feed(0, 500, 1);
        x.bundle(0);
        x.expire(0);
        x.bundle(0);
        check.due("NUMBER of the BAR", x.under(0, 3), START);
        return x;
    }

    /** The bits for a MARK that is so much farther. */
    private static int moved(int bits, int steps) {
        int still = 0;
        for (int bit = steps; bit < WINDOW; bit++) {
            still |= (bits >> bit & 1) << bit - steps;
        }
        return still;
    }

    private static void aNumberAndEveryMark() throws ReflectiveOperationException {
        for (int mark = 0; mark < 64; mark++) {
            for (int bits = 0; bits < 64; bits += 7) {
                BoundFrames x = oneUnderWay(0);
                set(farEnd(x), "mark", mark);
                set(farEnd(x), "bits", bits);
                x.deliver(0, 0);
                int ahead = aheadOf(mark, START);
                int steps = ahead >= 32 || ahead < WINDOW ? 0 : ahead - WINDOW + 1;
                int bit = ahead >= 32 ? 0 : 1 << ahead - steps;
                check.due("MARK, which was " + mark, x.far(0, 4), (mark + steps) % 64);
                check.due("bits of MARK " + mark, x.far(0, 5), moved(bits, steps) | bit);
                check.due("NUMBER of the ANSWER", x.under(0, 3), (mark + steps) % 64);
            }
        }
    }

    private static void aBarAndEveryMark() throws ReflectiveOperationException {
        for (int mark = 0; mark < 64; mark++) {
            for (int bits = 0; bits < 64; bits += 7) {
                BoundFrames x = barUnderWay(0);
                set(farEnd(x), "mark", mark);
                set(farEnd(x), "bits", bits);
                x.deliver(0, 0);
                int ahead = aheadOf(mark, START);
                check.due("MARK, which was " + mark, x.far(0, 4), ahead >= 32 ? mark : START);
                check.due("bits of MARK " + mark, x.far(0, 5), ahead >= 32 ? bits : moved(bits, ahead));
            }
        }
    }

    /** What is due of the far end: FROM, and by places from it on what is kept; VALUES as they are RELEASED. */
    private static final class Due {
        int from;
        final List<Integer> kept = new ArrayList<>();
        final List<Integer> released = new ArrayList<>();

        Due(int from, int[] places, boolean had) {
            this.from = from;
            for (int place = 0; place < WINDOW; place++) {
                kept.add(NONE);
            }
            for (int place : places) {
                kept.set(place, had ? 0 : 100 + place);
            }
        }

        void step() {
            int first = kept.remove(0);
            if (first > 0) {
                released.add(first);
            }
            kept.add(NONE);
            from = (from + 1) % 64;
        }

        void on() {
            while (kept.get(0) != NONE) {
                step();
            }
        }

        void look(String where, BoundFrames x, int releasedAhead) {
            check.due("FROM " + where, x.far(0, 3), from);
            for (int place = 0; place < WINDOW; place++) {
                check.due("held at " + place + " " + where, x.held(0, place), kept.get(place));
            }
            int size = released.size();
            check.due("RELEASED " + where, x.count(4), releasedAhead + size);
            for (int i = 0; i < size; i++) {
                check.due("RELEASED at " + i + " " + where, x.released(0, i), released.get(size - 1 - i));
            }
        }
    }

    /** "BEHIND FROM: DOUBLED"; "not in the SPAN of FROM: FROM moves so that it is the last one". */
    private static void aNumberAndEveryFrom() throws ReflectiveOperationException {
        for (int kind = 0; kind <= 2; kind += 2) {
            for (int from = 0; from < 64; from++) {
                for (int[] places : PLACES) {
                    BoundFrames x = oneUnderWay(kind);
                    keep(x, from, places, kind == 2);
                    x.deliver(0, 0);
                    Due due = new Due(from, places, kind == 2);
                    int doubled = numberComes(due, aheadOf(from, START), kind);
                    String where = "of FROM " + from + " with " + Arrays.toString(places);
                    due.look(where, x, START);
                    check.due("DOUBLED " + where, x.far(0, 8), doubled);
                    check.due("DOUBLED in all " + where, x.count(5), doubled);
                }
            }
        }
    }

    private static int numberComes(Due due, int aheadAtFirst, int kind) {
        if (aheadAtFirst >= 32) {
            return 1;
        }
        int place = aheadAtFirst;
        for (; place >= WINDOW; place--) {
            due.step();
        }
        if (due.kept.get(place) != NONE) {
            due.on();
            return 1;
        }
        if (kind == 2) {
            due.released.add(500);
        }
        due.kept.set(place, kind == 2 ? 0 : 500);
        due.on();
        return 0;
    }

    private static void aBarAndEveryFrom() throws ReflectiveOperationException {
        for (int kind = 0; kind < 3; kind++) {
            for (int from = 0; from < 64; from++) {
                for (int[] places : PLACES) {
                    BoundFrames x = barUnderWay(kind);
                    keep(x, from, places, kind == 2);
                    set(farEnd(x), "waited", 9);
                    x.deliver(0, 0);
                    Due due = new Due(from, places, kind == 2);
                    if (aheadOf(from, START) < 32) {
                        for (int steps = aheadOf(from, START); steps > 0; steps--) {
                            due.step();
                        }
                        due.on();
                    }
                    String where = "of FROM " + from + " with " + Arrays.toString(places);
                    due.look(where, x, START - 1);
                    check.due("WAITED is 0 whenever FROM moved, " + where, x.far(0, 7), due.from == from ? 9 : 0);
                }
            }
        }
    }

    /** "less than WINDOW AHEAD of that of the ANSWER, and has its bit there": for any NUMBER and bits. */
    private static void anAnswerOfEveryNumber() throws ReflectiveOperationException {
        for (int number = 0; number < 64; number++) {
            for (int bits : new int[] {0, -1, 1, 1 << WINDOW - 1, 1 << WINDOW, 0x2A, 0x15, 0x7FFFFFC0}) {
                BoundFrames x = Scene.openAt(START, 0, WINDOW, 4, 1);
                Scene.feed(x, 0, 101, WINDOW, 1);
                x.bundle(0);
                x.deliver(0, 0);
                set(firstLetter(x), "number", number);
                set(firstLetter(x), "bits", bits);
                x.deliver(0, 0);
                int start = START;
                int notDone = 0;
                for (int k = 0; k < WINDOW; k++) {
                    int bit = aheadOf(number, START + k);
                    boolean done = bit < WINDOW && (bits >> bit & 1) == 1;
                    start += done && start == START + k ? 1 : 0;
                    notDone += done ? 0 : 1;
                }
                check.due("START behind ANSWER " + number + " " + bits, x.near(0, 3), start);
                check.due("not DONE behind ANSWER " + number + " " + bits, x.near(0, 6), notDone);
            }
        }
    }

    // ---- LETTERS that find nothing

    /** "of a BUNDLE how many SUB-FRAMES were right (also if no SESSION is there)"; no ANSWER goes. */
    private static void aBundleWithoutASession() throws ReflectiveOperationException {
        for (int damage = 0; damage < 16; damage++) {
            BoundFrames x = Scene.openAt(0, 0, WINDOW, 4, 1);
            Scene.feed(x, 0, 101, 4, 1);
            x.bundle(0);
            set(farEnd(x), "there", false);
            int right = 4 - Integer.bitCount(damage);
            check.due("deliver", x.deliver(0, damage), right);
            check.due("SUB-FRAMES that came right (likewise)", x.count(3), right);
            check.due("no ANSWER goes", x.count(7), 0);
            check.due("LETTERS sent", x.count(0), 3);
            check.due("lost", x.count(1), 0);
            check.due("nothing is RELEASED", x.count(4), 0);
            check.due("nothing is DOUBLED", x.count(5), 0);
            check.due("no SESSION is there", x.far(0, 0), 0);
        }
    }

    private static void aBarWithoutASession() throws ReflectiveOperationException {
        BoundFrames x = barUnderWay(0);
        keep(x, START - 2, new int[] {1, 2, 3}, false);
        set(farEnd(x), "there", false);
        int sent = x.count(0);
        check.due("deliver", x.deliver(0, 0), 1);
        check.due("nothing is RELEASED", x.count(4), START - 1);
        check.due("no ANSWER goes", x.count(0), sent);
        check.due("under way", x.count(7), 0);
        check.due("no SESSION is there", x.far(0, 0), 0);
    }

    private static void anEndWithoutASession() throws ReflectiveOperationException {
        BoundFrames x = Scene.openAt(0, 0, WINDOW, 4, 1);
        Scene.feed(x, 0, 101, 3, 1);
        Scene.exchange(x, 0, 1);
        x.close(0);
        set(farEnd(x), "there", false);
        check.due("deliver", x.deliver(0, 0), 1);
        check.due("nothing is RELEASED", x.count(4), 0);
        check.due("no SESSION is there", x.far(0, 0), 0);
    }

    private static void aYesUnasked() throws ReflectiveOperationException {
        for (int stage = 0; stage <= 2; stage += 2) {
            BoundFrames x = Scene.withAir("9+0*9:8");
            x.open(0, 0, 5, 2, 1);
            x.deliver(0, 0);
            set(nearEnd(x), "stage", stage);
            set(nearEnd(x), "window", 9);
            check.due("deliver", x.deliver(0, 0), 1);
            check.due("the near end is as it was", x.near(0, 0), stage);
            check.due("its WINDOW is as it was", x.near(0, 1), stage == 2 ? 9 : NONE);
        }
    }

    private static void anAnswerUnasked() throws ReflectiveOperationException {
        BoundFrames x = Scene.openAt(0, 0, WINDOW, 1, 1);
        Scene.feed(x, 0, 101, 3, 1);
        x.bundle(0);
        x.deliver(0, 1);
        set(nearEnd(x), "awaits", false);
        check.due("deliver", x.deliver(0, 0), 1);
        check.due("nothing is DONE", x.near(0, 6), 3);
        check.due("nothing is LOST", x.near(0, 9), 0);
        check.due("no BAR is to be sent", x.near(0, 8), 0);
        check.due("START stays", x.near(0, 3), 0);
    }
}
