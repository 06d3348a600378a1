import java.util.ArrayList;
import java.util.List;

/** Everything that an object tells, as a text: two objects that tell the same have the same text. */
final class Told {
    /** More places than any row has: a row without an end is told so far. */
    private static final int FAR_ENOUGH = 100;

    private Told() {
    }

    static String of(BoundFrames x) {
        StringBuilder told = new StringBuilder();
        put(told, "fault", x.fault());
        for (int what = 0; what < 7; what++) {
            put(told, "about " + what, x.about(what));
        }
        for (int of = 0; of < 4; of++) {
            nearEnd(told, x, of);
            farEnd(told, x, of);
        }
        letters(told, x);
        for (int what = 0; what < 10; what++) {
            put(told, "count " + what, x.count(what));
        }
        put(told, "digest", x.digest());
        return told.toString();
    }

    private static void nearEnd(StringBuilder told, BoundFrames x, int of) {
        for (int what = 0; what < 10; what++) {
            put(told, "near " + of + "," + what, x.near(of, what));
        }
        for (int place = 0; place < FAR_ENOUGH && x.given(of, place, 0) >= 0; place++) {
            for (int what = 0; what < 5; what++) {
                put(told, "given " + of + "," + place + "," + what, x.given(of, place, what));
            }
        }
    }

    private static void farEnd(StringBuilder told, BoundFrames x, int of) {
        for (int what = 0; what < 9; what++) {
            put(told, "far " + of + "," + what, x.far(of, what));
        }
        for (int kind = 0; kind < 3; kind++) {
            put(told, "as " + of + "," + kind, x.as(of, kind));
        }
        for (int place = 0; place < x.far(of, 2); place++) {
            put(told, "held " + of + "," + place, x.held(of, place));
        }
        for (int place = 0; place < FAR_ENOUGH && x.released(of, place) >= 0; place++) {
            put(told, "released " + of + "," + place, x.released(of, place));
        }
    }

    private static void letters(StringBuilder told, BoundFrames x) {
        for (int place = 0; place < x.count(7); place++) {
            for (int what = 0; what < 6; what++) {
                put(told, "under " + place + "," + what, x.under(place, what));
            }
            for (int frame = 0; frame < x.under(place, 2); frame++) {
                for (int what = 0; what < 4; what++) {
                    put(told, "frame " + place + "," + frame + "," + what, x.frame(place, frame, what));
                }
            }
        }
    }

    /** The digest once more, by the words of the document, from what the other calls tell; page has THE PAGE's letters. */
    static long digest(BoundFrames x, String page) {
        List<Integer> numbers = new ArrayList<>();
        if (x.about(0) != BoundFrames.STATE) {
            for (int what = 0; what < 7; what++) {
                numbers.add(x.about(what));
            }
            for (int of = 0; of < 4; of++) {
                numbersOfClass(numbers, x, of);
            }
            numbersOfLetters(numbers, x);
        }
        for (int i = 0; i < page.length(); i++) {
            numbers.add((int) page.charAt(i));
        }
        for (int what = 0; what < 10; what++) {
            numbers.add(x.count(what));
        }
        long h = 1543;
        for (int number : numbers) {
            h = 31 * h + number;
        }
        return h;
    }

    private static void numbersOfClass(List<Integer> numbers, BoundFrames x, int of) {
        for (int what = 0; what < 10; what++) {
            numbers.add(x.near(of, what));
        }
        for (int place = 0; place < FAR_ENOUGH && x.given(of, place, 0) >= 0; place++) {
            for (int what = 0; what < 5; what++) {
                numbers.add(x.given(of, place, what));
            }
        }
        for (int what = 0; what < 9; what++) {
            numbers.add(x.far(of, what));
        }
        for (int place = 0; place < x.far(of, 2); place++) {
            numbers.add(x.held(of, place));
        }
        for (int place = 0; place < FAR_ENOUGH && x.released(of, place) >= 0; place++) {
            numbers.add(x.released(of, place));
        }
    }

    private static void numbersOfLetters(List<Integer> numbers, BoundFrames x) {
        for (int place = 0; place < x.count(7); place++) {
            for (int what = 0; what < 6; what++) {
                numbers.add(x.under(place, what));
            }
            for (int frame = 0; frame < x.under(place, 2); frame++) {
                for (int what = 0; what < 4; what++) {
                    numbers.add(x.frame(place, frame, what));
                }
            }
        }
    }

    /**
     * Plays an object out, so that what no call tells (what is in the QUEUE, a HOLD, what an ASK asks for, whether a
     * BAR had gone) shows in what happens.
     */
    static String playedOut(BoundFrames x) {
        StringBuilder told = new StringBuilder();
        for (int round = 0; round < 8; round++) {
            arrive(told, x);
            for (int of = 0; of < 4; of++) {
                put(told, "bundle " + of, x.bundle(of));
            }
            put(told, "digest", x.digest());
            put(told, "pass", x.pass(1));
            put(told, "digest", x.digest());
            for (int of = 0; of < 4; of++) {
                put(told, "expire " + of, round % 2 == 0 ? x.expire(of) : 0);
            }
        }
        for (int of = 0; of < 4; of++) {
            put(told, "close " + of, x.close(of));
        }
        put(told, "pass", x.pass(60));
        arrive(told, x);
        put(told, "digest", x.digest());
        return told.toString();
    }

    private static void arrive(StringBuilder told, BoundFrames x) {
        for (int i = 0; i < 8; i++) {
            put(told, "deliver", x.deliver(0, 0));
        }
    }

    private static void put(StringBuilder told, String call, long answer) {
        told.append(call).append(": ").append(answer).append('\n');
    }
}
