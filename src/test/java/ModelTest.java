import java.util.Random;

/**
 * All promises at once: runs of calls by a driver that mostly does what is sensible and at times what is not,
 * each answer and each digest compared with the Model's.
 */
public final class ModelTest {
    private static final Check check = new Check("ModelTest");
    private static final int RUNS = 3000;
    /** An object is used for 512 calls at most; a step takes no more than twelve. */
    private static final int MOST_CALLS = 512;
    private static final int CALLS_OF_A_STEP = 12;
    private static final int[] seen = new int[8];

    public static void main(String[] args) {
        for (int run = 0; run < RUNS && check.isClean(); run++) {
            new ModelTest(run).drive();
        }
        String[] what = {"RELEASED", "DOUBLED", "LOST", "letters lost", "NUMBERS that came round", "WAITED", "HAD", "FULL"};
        for (int i = 0; i < what.length; i++) {
            check.holds("the runs have met " + what[i] + " often (" + seen[i] + ")", seen[i] > 50);
        }
        check.end();
    }

    private final int run;
    private final Random random;
    private final BoundFrames x = new BoundFrames();
    private final Model m = new Model();
    /** How often of 100 a LETTER is delivered damaged, and how often it is lost. */
    private final int harm;
    private final int wild;
    /** In every other run one CLASS has it all, so that its NUMBERS come round. */
    private final int classes;
    private final int[] lastStart = new int[4];
    private final StringBuilder told = new StringBuilder();
    private int calls = 0;

    private ModelTest(int run) {
        this.run = run;
        random = new Random(run * 7919L + 17);
        harm = new int[] {2, 15, 40}[run % 3];
        wild = new int[] {0, 3, 20}[run / 3 % 3];
        classes = run % 2 == 0 ? 4 : 1;
    }

    private void drive() {
        readAir();
        if (classes == 1) {
            open(0);
            deliver();
            deliver();
        }
        while (calls + CALLS_OF_A_STEP <= MOST_CALLS && check.isClean()) {
            step();
            same("digest", x.digest(), m.digest());
            look();
        }
        seen[0] += m.count(4);
        seen[1] += m.count(5);
        seen[2] += m.count(6);
        seen[3] += m.count(1);
        if (!check.isClean()) {
            System.out.println("run " + run + ":" + told);
        }
    }

    /** Looks at the Model, so that it takes no call of the object. */
    private void look() {
        for (int of = 0; of < 4; of++) {
            int start = m.near(of, 3);
            seen[4] += start >= 0 && start < lastStart[of] - 32 ? 1 : 0;
            lastStart[of] = start;
            seen[5] += m.far(of, 7) > 0 ? 1 : 0;
            seen[6] += m.held(of, 1) == 0 ? 1 : 0;
        }
    }

    private void same(String call, long got, long want) {
        calls++;
        check.due(call, got, want);
        if (want == BoundFrames.FULL) {
            seen[7]++;
        }
    }

    private int pick(int least, int most) {
        return least + random.nextInt(most - least + 1);
    }

    private boolean chance(int ofHundred) {
        return random.nextInt(100) < ofHundred;
    }

    /** A number as asked for, or, in wild runs, one about its edges or far off. */
    private int number(int least, int most) {
        if (!chance(wild)) {
            return pick(least, most);
        }
        int[] odd = {least - 1, most + 1, least, most, Integer.MIN_VALUE, Integer.MAX_VALUE, -1, 0, 64};
        return odd[random.nextInt(odd.length)];
    }

    private void note(String call) {
        told.append(' ').append(call);
    }

    private void readAir() {
        int bound = chance(50) ? 8 : pick(1, 8);
        String text = pick(1, 9) + "+" + (chance(50) ? 0 : pick(0, 9)) + "*" + pick(1, 9) + ":" + bound;
        note("air " + text);
        for (int i = 0; i < text.length(); i++) {
            same("letter", x.letter(text.charAt(i)), m.letter(text.charAt(i)));
        }
        same("fault", x.fault(), m.fault());
        same("air", x.air(), m.air());
    }

    private void step() {
        int of = number(0, classes - 1);
        if (chance(80)) {
            unstick(of);
        }
        int dice = random.nextInt(100);
        if (dice < (classes == 1 ? 5 : 30)) {
            deliver();
        } else if (dice < 55) {
            boolean hungry = m.near(of, 5) < 12 || chance(15);
            for (int i = hungry ? pick(1, 6) : 0; i > 0; i--) {
                feed(of);
            }
            if (classes == 1) {
                bundle(of);
                deliver();
                deliver();
            }
        } else if (dice < 75) {
            bundle(of);
        } else if (dice < 82) {
            open(of);
        } else if (dice < 88) {
            pass(chance(80) ? number(1, 4) : number(1, 60));
        } else if (dice < 94) {
            expire(of);
        } else if (dice < 95 && chance(100 / (5 - classes))) {
            note("close " + of);
            same("close", x.close(of), m.close(of));
        } else if (dice < 97) {
            texts();
        } else {
            ask();
        }
    }

    /** When nothing goes on by itself: waits no longer, asks once more, lets the far end wake. */
    private void unstick(int of) {
        boolean waits = m.near(of, 7) == 1 || m.near(of, 0) == 1;
        if (waits && m.count(7) == 0) {
            expire(of);
        } else if (m.near(of, 0) == 0) {
            open(of);
        } else if (m.about(5) == 0) {
            pass(pick(1, 4));
        }
    }

    private void expire(int of) {
        note("expire " + of);
        same("expire", x.expire(of), m.expire(of));
    }

    private void pass(int ticks) {
        note("pass " + ticks);
        same("pass", x.pass(ticks), m.pass(ticks));
    }

    private void bundle(int of) {
        note("bundle " + of);
        same("bundle", x.bundle(of), m.bundle(of));
    }

    private void deliver() {
        int place = number(0, Math.max(0, m.count(7) - 1));
        if (chance(harm / 2)) {
            note("lose " + place);
            same("lose", x.lose(place), m.lose(place));
        } else {
            int damage = chance(harm) ? number(0, 255) & number(0, 255) : number(0, 0);
            note("deliver " + place + "," + damage);
            same("deliver", x.deliver(place, damage), m.deliver(place, damage));
        }
    }

    private void feed(int of) {
        int value = number(1, 999);
        int room = m.about(0) * m.about(2);
        int length = chance(95) ? number(1, Math.min(4, room)) : number(1, 20);
        note("feed " + of + "," + value + "," + length);
        same("feed", x.feed(of, value, length), m.feed(of, value, length));
    }

    private void open(int of) {
        int kind = number(0, 2);
        int window = number(1, 15);
        int tries = number(1, 4);
        int hold = number(1, 20);
        note("open " + of + "," + kind + "," + window + "," + tries + "," + hold);
        same("open", x.open(of, kind, window, tries, hold), m.open(of, kind, window, tries, hold));
    }

    private void texts() {
        if (chance(2)) {
            same("blank", x.blank(), m.blank());
            readAir();
        } else if (chance(20)) {
            note("blank");
            same("blank", x.blank(), m.blank());
        } else {
            int code = chance(50) ? "123456789+0*:".charAt(random.nextInt(13)) : number(32, 126);
            note("letter " + code);
            same("letter", x.letter(code), m.letter(code));
            same("fault", x.fault(), m.fault());
            same("air", x.air(), m.air());
        }
    }

    private void ask() {
        int of = number(0, 3);
        int place = number(0, 12);
        int what = number(0, 10);
        same("about", x.about(what), m.about(what));
        same("near", x.near(of, what), m.near(of, what));
        same("given", x.given(of, place, what), m.given(of, place, what));
        same("far", x.far(of, what), m.far(of, what));
        same("held", x.held(of, place), m.held(of, place));
        same("as", x.as(of, what), m.as(of, what));
        same("released", x.released(of, place), m.released(of, place));
        same("under", x.under(of, what), m.under(of, what));
        same("frame", x.frame(of, place, what), m.frame(of, place, what));
        same("count", x.count(what), m.count(what));
    }
}
