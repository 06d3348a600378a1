/**
 * Two ends and the air between: a near end that binds what it was fed to bundles,
 * a far end that is awake and asleep by turns, and the letters under way between them.
 */
public final class BoundFrames {
    public static final int NONE = -1, UNKNOWN = -101, OUTSIDE = -102, STATE = -103, FULL = -104;

    private static final int CLASSES = 4;
    private static final int ABOUT_WHATS = 7;
    private static final int NEAR_WHATS = 10;
    private static final int GIVEN_WHATS = 5;
    private static final int FAR_WHATS = 9;
    private static final int UNDER_WHATS = 6;
    private static final int FRAME_WHATS = 4;
    private static final int COUNT_WHATS = 10;

    private static final int NUMBERS = 64;
    private static final int HALF = 32;
    private static final int WIDEST = 12;
    private static final int WIDEST_ASKED = 15;
    private static final int MOST_TRIES = 4;
    private static final int LONGEST_HOLD = 20;
    private static final int MOST_VALUE = 999;
    private static final int MOST_LENGTH = 20;
    private static final int MOST_DAMAGE = 255;
    private static final int MOST_TICKS = 60;

    /** Rows that are kept by NUMBER: no WINDOW is wider, and NUMBERS that come round meet their slot again. */
    private static final int SLOTS = 16;

    private static final int STRICT = 0;
    private static final int HASTY = 1;
    private static final int LOOSE = 2;

    private static final int NO_SESSION = 0;
    private static final int ASKED = 1;
    private static final int OPEN = 2;

    private static final int ASK = 0;
    private static final int YES = 1;
    private static final int BUNDLE = 2;
    private static final int BAR = 3;
    private static final int ANSWER = 4;
    private static final int END = 5;

    private final Page page;
    private final Air sky;
    private final Tally tally;
    private final Post post;
    private final NearEnd[] nearEnds;
    private final FarEnd[] farEnds;

    public BoundFrames() {
        page = new Page();
        sky = new Air();
        tally = new Tally();
        post = new Post(tally);
        nearEnds = new NearEnd[CLASSES];
        farEnds = new FarEnd[CLASSES];
        for (int of = 0; of < CLASSES; of++) {
            nearEnds[of] = new NearEnd(tally);
            farEnds[of] = new FarEnd(tally);
        }
    }

    // ---- texts

    public int letter(int code) {
        if (!within(code, 32, 126)) {
            return OUTSIDE;
        }
        return page.write(code) ? page.size : FULL;
    }

    public int blank() {
        return page.wipe();
    }

    public int fault() {
        return page.firstFault();
    }

    public int air() {
        if (!page.isAir()) {
            return STATE;
        }
        sky.read(page);
        page.wipe();
        tally.clear();
        tally.airs++;
        post.clear();
        for (int of = 0; of < CLASSES; of++) {
            nearEnds[of].vanish();
            farEnds[of].vanish();
        }
        return sky.on + sky.off;
    }

    // ---- the near end

    public int open(int of, int kind, int window, int tries, int hold) {
        if (!sky.isRead) {
            return STATE;
        }
        if (!isClass(of)) {
            return UNKNOWN;
        }
        if (!within(kind, STRICT, LOOSE) || !within(window, 1, WIDEST_ASKED)
                || !within(tries, 1, MOST_TRIES) || !within(hold, 1, LONGEST_HOLD)) {
            return OUTSIDE;
        }
        if (nearEnds[of].stage != NO_SESSION || post.countOf(of) > 0) {
            return STATE;
        }
        nearEnds[of].ask(tries);
        Letter ask = post.send(of, ASK);
        ask.kind = kind;
        ask.window = window;
        ask.hold = hold;
        return post.size;
    }

    public int close(int of) {
        if (!isClassOfAir(of)) {
            return UNKNOWN;
        }
        NearEnd end = nearEnds[of];
        if (end.stage != OPEN || end.awaits) {
            return STATE;
        }
        int gone = end.queued + end.undone();
        end.vanish();
        post.send(of, END);
        return gone;
    }

    public int feed(int of, int value, int length) {
        if (!isClassOfAir(of)) {
            return UNKNOWN;
        }
        if (!within(value, 1, MOST_VALUE) || !within(length, 1, MOST_LENGTH)) {
            return OUTSIDE;
        }
        NearEnd end = nearEnds[of];
        if (end.stage != OPEN) {
            return STATE;
        }
        return end.enqueue(value, length) ? end.queued : FULL;
    }

    public int bundle(int of) {
        if (!isClassOfAir(of)) {
            return UNKNOWN;
        }
        NearEnd end = nearEnds[of];
        if (end.stage != OPEN || end.awaits || !sky.isAwake()) {
            return STATE;
        }
        if (end.barDue) {
            post.send(of, BAR).number = end.start;
            end.barGoes();
            return 0;
        }
        int size = end.bundleSize(sky.bound, sky.rate * sky.left());
        if (size == 0) {
            return STATE;
        }
        end.bundleGoes(post.send(of, BUNDLE), size);
        tally.framesSent += size;
        return size;
    }

    public int expire(int of) {
        if (!isClassOfAir(of)) {
            return UNKNOWN;
        }
        NearEnd end = nearEnds[of];
        if (end.stage != ASKED && !end.awaits) {
            return STATE;
        }
        int gone = post.loseAllOf(of);
        if (end.stage == ASKED) {
            end.vanish();
        } else {
            end.waitNoLonger();
        }
        return gone;
    }

    // ---- the air

    public int deliver(int place, int damage) {
        if (!post.has(place)) {
            return UNKNOWN;
        }
        if (!within(damage, 0, MOST_DAMAGE)) {
            return OUTSIDE;
        }
        Letter letter = post.take(place);
        boolean missed = letter.goesToFarEnd() && !sky.isAwake();
        boolean spoiled = letter.sort != BUNDLE && damage != 0;
        if (missed || spoiled) {
            tally.lettersLost++;
            return NONE;
        }
        if (letter.sort == BUNDLE) {
            return bundleArrives(letter, damage);
        }
        arrives(letter);
        return 1;
    }

    public int lose(int place) {
        if (!post.has(place)) {
            return UNKNOWN;
        }
        tally.lettersLost++;
        return post.take(place).sort;
    }

    public int pass(int n) {
        if (!within(n, 1, MOST_TICKS)) {
            return OUTSIDE;
        }
        if (!sky.isRead) {
            return STATE;
        }
        for (int i = 0; i < n; i++) {
            sky.time++;
            for (int of = 0; of < CLASSES; of++) {
                farEnds[of].tick();
            }
        }
        return sky.time;
    }

    // ---- what is told

    public int about(int what) {
        if (!within(what, 0, ABOUT_WHATS - 1)) {
            return OUTSIDE;
        }
        return sky.isRead ? sky.tell(what) : STATE;
    }

    public int near(int of, int what) {
        if (!isClassOfAir(of)) {
            return UNKNOWN;
        }
        if (!within(what, 0, NEAR_WHATS - 1)) {
            return OUTSIDE;
        }
        return nearEnds[of].tell(what);
    }

    public int given(int of, int place, int what) {
        if (!isClassOfAir(of) || !nearEnds[of].hasPlace(place)) {
            return UNKNOWN;
        }
        if (!within(what, 0, GIVEN_WHATS - 1)) {
            return OUTSIDE;
        }
        return nearEnds[of].tellGiven(place, what);
    }

    public int far(int of, int what) {
        if (!isClassOfAir(of)) {
            return UNKNOWN;
        }
        if (!within(what, 0, FAR_WHATS - 1)) {
            return OUTSIDE;
        }
        return farEnds[of].tell(what);
    }

    public int held(int of, int place) {
        if (!isClassOfAir(of) || !farEnds[of].hasPlace(place)) {
            return UNKNOWN;
        }
        return farEnds[of].keptAt(place);
    }

    public int as(int of, int kind) {
        if (!isClassOfAir(of) || !farEnds[of].there) {
            return UNKNOWN;
        }
        if (!within(kind, STRICT, LOOSE)) {
            return OUTSIDE;
        }
        return farEnds[of].is(kind) ? farEnds[of].kind : NONE;
    }

    public int released(int of, int place) {
        if (!isClassOfAir(of) || !farEnds[of].outs.has(place)) {
            return UNKNOWN;
        }
        return farEnds[of].outs.at(place);
    }

    public int under(int place, int what) {
        if (!post.has(place)) {
            return UNKNOWN;
        }
        if (!within(what, 0, UNDER_WHATS - 1)) {
            return OUTSIDE;
        }
        return post.at(place).tell(what);
    }

    public int frame(int place, int frame, int what) {
        if (!post.has(place) || !post.at(place).hasFrame(frame)) {
            return UNKNOWN;
        }
        if (!within(what, 0, FRAME_WHATS - 1)) {
            return OUTSIDE;
        }
        return post.at(place).tellFrame(frame, what);
    }

    // ---- what is told of all

    public int count(int what) {
        switch (what) {
            case 0: return tally.lettersSent;
            case 1: return tally.lettersLost;
            case 2: return tally.framesSent;
            case 3: return tally.framesRight;
            case 4: return tally.valuesReleased;
            case 5: return tally.valuesDoubled;
            case 6: return tally.numbersLost;
            case 7: return post.size;
            case 8: return page.size;
            case 9: return tally.airs;
            default: return OUTSIDE;
        }
    }

    public long digest() {
        long h = 1543L;
        if (sky.isRead) {
            for (int what = 0; what < ABOUT_WHATS; what++) {
                h = mix(h, sky.tell(what));
            }
            for (int of = 0; of < CLASSES; of++) {
                h = digestOfNearEnd(h, nearEnds[of]);
                h = digestOfFarEnd(h, farEnds[of]);
            }
            for (int place = 0; place < post.size; place++) {
                h = digestOfLetter(h, post.at(place));
            }
        }
        for (int place = 0; place < page.size; place++) {
            h = mix(h, page.at(place));
        }
        for (int what = 0; what < COUNT_WHATS; what++) {
            h = mix(h, count(what));
        }
        return h;
    }

    private static long digestOfNearEnd(long before, NearEnd end) {
        long h = before;
        for (int what = 0; what < NEAR_WHATS; what++) {
            h = mix(h, end.tell(what));
        }
        for (int place = 0; place < WIDEST && end.hasPlace(place); place++) {
            for (int what = 0; what < GIVEN_WHATS; what++) {
                h = mix(h, end.tellGiven(place, what));
            }
        }
        return h;
    }

    private static long digestOfFarEnd(long before, FarEnd end) {
        long h = before;
        for (int what = 0; what < FAR_WHATS; what++) {
            h = mix(h, end.tell(what));
        }
        for (int place = 0; place < WIDEST && end.hasPlace(place); place++) {
            h = mix(h, end.keptAt(place));
        }
        for (int place = 0; place < Outs.KEPT && end.outs.has(place); place++) {
            h = mix(h, end.outs.at(place));
        }
        return h;
    }

    private static long digestOfLetter(long before, Letter letter) {
        long h = before;
        for (int what = 0; what < UNDER_WHATS; what++) {
            h = mix(h, letter.tell(what));
        }
        for (int place = 0; place < Letter.MOST_FRAMES && letter.hasFrame(place); place++) {
            for (int what = 0; what < FRAME_WHATS; what++) {
                h = mix(h, letter.tellFrame(place, what));
            }
        }
        return h;
    }

    private static long mix(long h, int number) {
        return 31L * h + number;
    }

    // ---- letters that arrive

    private int bundleArrives(Letter letter, int damage) {
        FarEnd end = farEnds[letter.of];
        int right = 0;
        for (int i = 0; i < Letter.MOST_FRAMES && letter.hasFrame(i); i++) {
            int value = letter.values[i] ^ ((damage >> i) & 1);
            if (checkOf(letter.of, letter.numbers[i], value, letter.lengths[i]) == letter.checks[i]) {
                right++;
                end.comes(letter.numbers[i], value);
            }
        }
        tally.framesRight += right;
        if (right > 0) {
            answer(letter.of);
        }
        return right;
    }

    private void arrives(Letter letter) {
        int of = letter.of;
        switch (letter.sort) {
            case ASK:
                farEnds[of].begin(letter.kind, Math.min(letter.window, WIDEST), letter.hold);
                post.send(of, YES).window = farEnds[of].window;
                break;
            case YES:
                nearEnds[of].yes(letter.window);
                break;
            case BAR:
                farEnds[of].bar(letter.number);
                answer(of);
                break;
            case ANSWER:
                nearEnds[of].answered(letter.number, letter.bits);
                break;
            default:
                farEnds[of].end();
                break;
        }
    }

    private void answer(int of) {
        FarEnd end = farEnds[of];
        if (end.there) {
            Letter answer = post.send(of, ANSWER);
            answer.number = end.mark;
            answer.bits = end.bits;
        }
    }

    // ---- numbers

    private boolean isClassOfAir(int of) {
        return sky.isRead && isClass(of);
    }

    private static boolean isClass(int of) {
        return within(of, 0, CLASSES - 1);
    }

    private static boolean within(int number, int least, int most) {
        return number >= least && number <= most;
    }

    private static int flag(boolean holds) {
        return holds ? 1 : 0;
    }

    private static int round(int number) {
        return number & (NUMBERS - 1);
    }

    private static int slot(int number) {
        return number & (SLOTS - 1);
    }

    /** How far b is AHEAD of a. */
    private static int ahead(int a, int b) {
        return (b - a) & (NUMBERS - 1);
    }

    private static boolean isBehind(int b, int a) {
        return ahead(a, b) >= HALF;
    }

    private static int checkOf(int of, int number, int value, int length) {
        int register = turn(0, of);
        register = turn(register, number);
        register = turn(register, value / 256);
        register = turn(register, value % 256);
        return turn(register, length);
    }

    private static int turn(int before, int part) {
        int register = before ^ part;
        for (int i = 0; i < 8; i++) {
            int went = (register >> 7) & 1;
            register = (register << 1) & 255;
            if (went == 1) {
                register ^= 7;
            }
        }
        return register;
    }

    /** What count() tells since the AIR was read, and how often one was. */
    private static final class Tally {
        int lettersSent;
        int lettersLost;
        int framesSent;
        int framesRight;
        int valuesReleased;
        int valuesDoubled;
        int numbersLost;
        int airs;

        void clear() {
            lettersSent = 0;
            lettersLost = 0;
            framesSent = 0;
            framesRight = 0;
            valuesReleased = 0;
            valuesDoubled = 0;
            numbersLost = 0;
        }
    }

    /** THE PAGE: a text that may be an AIR. */
    private static final class Page {
        private static final int MOST = 9;
        private static final int[] LOWEST = {'1', '+', '0', '*', '1', ':', '1'};
        private static final int[] HIGHEST = {'9', '+', '9', '*', '9', ':', '8'};

        final int[] codes = new int[MOST];
        int size;

        boolean write(int code) {
            if (size >= MOST) {
                return false;
            }
            codes[size] = code;
            size++;
            return true;
        }

        int wipe() {
            int had = size;
            size = 0;
            return had;
        }

        int firstFault() {
            for (int i = 0; i < size; i++) {
                if (i >= LOWEST.length || !within(codes[i], LOWEST[i], HIGHEST[i])) {
                    return i;
                }
            }
            return size;
        }

        boolean isAir() {
            return size == LOWEST.length && firstFault() == size;
        }

        int at(int place) {
            return within(place, 0, size - 1) ? codes[place] : NONE;
        }

        int digitAt(int place) {
            return at(place) - '0';
        }
    }

    /** THE AIR and its TIME. */
    private static final class Air {
        boolean isRead;
        int on;
        int off;
        int rate;
        int bound;
        int time;

        void read(Page page) {
            isRead = true;
            on = page.digitAt(0);
            off = page.digitAt(2);
            rate = page.digitAt(4);
            bound = page.digitAt(6);
            time = 0;
        }

        int left() {
            int turn = on + off;
            int rest = turn > 0 ? time % turn : 0;
            return rest < on ? on - rest : 0;
        }

        boolean isAwake() {
            return left() > 0;
        }

        int tell(int what) {
            switch (what) {
                case 0: return on;
                case 1: return off;
                case 2: return rate;
                case 3: return bound;
                case 4: return time;
                case 5: return flag(isAwake());
                default: return left();
            }
        }
    }

    /** A LETTER; what its SORT does not have is NONE. */
    private static final class Letter {
        static final int MOST_FRAMES = 8;

        int of;
        int sort;
        int kind;
        int window;
        int hold;
        int number;
        int bits;
        int size;
        final int[] numbers = new int[MOST_FRAMES];
        final int[] values = new int[MOST_FRAMES];
        final int[] lengths = new int[MOST_FRAMES];
        final int[] checks = new int[MOST_FRAMES];

        void begin(int ofClass, int newSort) {
            of = ofClass;
            sort = newSort;
            kind = NONE;
            window = NONE;
            hold = NONE;
            number = NONE;
            bits = NONE;
            size = 0;
        }

        boolean goesToFarEnd() {
            return sort != YES && sort != ANSWER;
        }

        boolean hasFrame(int place) {
            return within(place, 0, size - 1);
        }

        void bind(int frameNumber, int value, int length) {
            if (size < MOST_FRAMES) {
                numbers[size] = frameNumber;
                values[size] = value;
                lengths[size] = length;
                checks[size] = checkOf(of, frameNumber, value, length);
                size++;
            }
        }

        int tell(int what) {
            switch (what) {
                case 0: return sort;
                case 1: return of;
                case 2: return size;
                case 3: return number;
                case 4: return bits;
                default: return window;
            }
        }

        int tellFrame(int place, int what) {
            if (!hasFrame(place)) {
                return NONE;
            }
            switch (what) {
                case 0: return numbers[place];
                case 1: return values[place];
                case 2: return lengths[place];
                default: return checks[place];
            }
        }
    }

    /** LETTERS under way, that which was sent first ahead. */
    private static final class Post {
        /**
         * A CLASS has one LETTER under way at most (nothing is sent while an answer is due, and a
         * LETTER is taken before it is answered); one more keeps the LETTER that was taken from
         * being written over by its answer.
         */
        private static final int ROOM = CLASSES + 1;

        final Tally tally;
        final Letter[] letters = new Letter[ROOM];
        int size;

        Post(Tally counts) {
            tally = counts;
            for (int i = 0; i < ROOM; i++) {
                letters[i] = new Letter();
            }
        }

        void clear() {
            size = 0;
        }

        boolean has(int place) {
            return within(place, 0, size - 1);
        }

        Letter at(int place) {
            return letters[has(place) ? place : 0];
        }

        Letter send(int of, int sort) {
            if (size < ROOM) {
                size++;
            }
            Letter letter = letters[size - 1];
            letter.begin(of, sort);
            tally.lettersSent++;
            return letter;
        }

        Letter take(int place) {
            Letter taken = at(place);
            if (has(place)) {
                for (int i = place; i < ROOM - 1; i++) {
                    letters[i] = letters[i + 1];
                }
                letters[ROOM - 1] = taken;
                size--;
            }
            return taken;
        }

        int countOf(int of) {
            int count = 0;
            for (int i = 0; i < size; i++) {
                count += flag(letters[i].of == of);
            }
            return count;
        }

        int loseAllOf(int of) {
            int lost = 0;
            for (int i = size - 1; i >= 0; i--) {
                if (letters[i].of == of) {
                    take(i);
                    lost++;
                }
            }
            tally.lettersLost += lost;
            return lost;
        }
    }

    /** The near end of a CLASS. */
    private static final class NearEnd {
        private static final int LONGEST_QUEUE = 24;

        final Tally tally;
        int stage;
        int window;
        int tries;
        int start;
        int next;
        int queued;
        int lost;
        boolean awaits;
        boolean barDue;
        boolean barGone;
        final int[] queueValues = new int[LONGEST_QUEUE];
        final int[] queueLengths = new int[LONGEST_QUEUE];
        final int[] values = new int[SLOTS];
        final int[] lengths = new int[SLOTS];
        final int[] tried = new int[SLOTS];
        final boolean[] done = new boolean[SLOTS];

        NearEnd(Tally counts) {
            tally = counts;
        }

        void vanish() {
            stage = NO_SESSION;
            start = 0;
            next = 0;
            queued = 0;
            lost = 0;
            awaits = false;
            barDue = false;
            barGone = false;
        }

        void ask(int newTries) {
            vanish();
            stage = ASKED;
            tries = newTries;
        }

        void yes(int newWindow) {
            if (stage == ASKED) {
                stage = OPEN;
                window = newWindow;
            }
        }

        boolean enqueue(int value, int length) {
            if (queued >= LONGEST_QUEUE) {
                return false;
            }
            queueValues[queued] = value;
            queueLengths[queued] = length;
            queued++;
            return true;
        }

        /** How many NUMBERS there are from START on to NEXT. */
        int spread() {
            return ahead(start, next);
        }

        boolean hasPlace(int place) {
            return stage == OPEN && within(place, 0, spread() - 1);
        }

        int undone() {
            int count = 0;
            int numbered = spread();
            for (int k = 0; k < numbered; k++) {
                count += flag(!done[slot(start + k)]);
            }
            return count;
        }

        /** How many SUB-FRAMES a BUNDLE would have; what is behind NEXT stands for the QUEUE. */
        int bundleSize(int bound, int room) {
            int size = 0;
            int sum = 0;
            int numbered = spread();
            for (int k = 0; k < window && k < numbered + queued && size < bound; k++) {
                if (k < numbered && done[slot(start + k)]) {
                    continue;
                }
                sum += k < numbered ? lengths[slot(start + k)] : queuedLength(k - numbered);
                if (sum > room) {
                    break;
                }
                size++;
            }
            return size;
        }

        int queuedLength(int place) {
            return within(place, 0, queued - 1) ? queueLengths[place] : 0;
        }

        void bundleGoes(Letter letter, int size) {
            for (int k = 0; k < window && letter.size < size; k++) {
                if (k >= spread()) {
                    giveNext();
                }
                int place = slot(start + k);
                if (!done[place]) {
                    tried[place]++;
                    letter.bind(round(start + k), values[place], lengths[place]);
                }
            }
            awaits = true;
            barGone = false;
        }

        void giveNext() {
            int place = slot(next);
            values[place] = queueValues[0];
            lengths[place] = queueLengths[0];
            tried[place] = 0;
            done[place] = false;
            next = round(next + 1);
            for (int i = 1; i < queued; i++) {
                queueValues[i - 1] = queueValues[i];
                queueLengths[i - 1] = queueLengths[i];
            }
            queued--;
        }

        void barGoes() {
            awaits = true;
            barDue = false;
            barGone = true;
        }

        void answered(int number, int bits) {
            if (!awaits) {
                return;
            }
            int numbered = spread();
            for (int k = 0; k < numbered; k++) {
                int bit = ahead(number, start + k);
                if (bit < window && ((bits >> bit) & 1) == 1) {
                    done[slot(start + k)] = true;
                }
            }
            giveUp();
            awaits = false;
        }

        void waitNoLonger() {
            giveUp();
            awaits = false;
            barDue = barDue || barGone;
        }

        void giveUp() {
            int numbered = spread();
            for (int k = 0; k < numbered; k++) {
                int place = slot(start + k);
                if (!done[place] && tried[place] >= tries) {
                    done[place] = true;
                    barDue = true;
                    lost++;
                    tally.numbersLost++;
                }
            }
            for (int k = 0; k < numbered && done[slot(start)]; k++) {
                start = round(start + 1);
            }
        }

        int tell(int what) {
            if (what == 0) {
                return stage;
            }
            if (stage != OPEN) {
                return NONE;
            }
            switch (what) {
                case 1: return window;
                case 2: return tries;
                case 3: return start;
                case 4: return next;
                case 5: return queued;
                case 6: return undone();
                case 7: return flag(awaits);
                case 8: return flag(barDue);
                default: return lost;
            }
        }

        int tellGiven(int place, int what) {
            int at = slot(start + place);
            switch (what) {
                case 0: return round(start + place);
                case 1: return values[at];
                case 2: return lengths[at];
                case 3: return tried[at];
                default: return flag(done[at]);
            }
        }
    }

    /** What was RELEASED of a CLASS, in whatever SESSION: the latest ones. */
    private static final class Outs {
        static final int KEPT = 10;

        final int[] values = new int[KEPT];
        int size;

        void clear() {
            size = 0;
        }

        void put(int value) {
            for (int i = KEPT - 1; i > 0; i--) {
                values[i] = values[i - 1];
            }
            values[0] = value;
            if (size < KEPT) {
                size++;
            }
        }

        boolean has(int place) {
            return within(place, 0, size - 1);
        }

        int at(int place) {
            return has(place) ? values[place] : NONE;
        }
    }

    /** The far end of a CLASS. */
    private static final class FarEnd {
        private static final int HAD = 0;

        final Tally tally;
        final Outs outs = new Outs();
        boolean there;
        int kind;
        int window;
        int hold;
        int from;
        int mark;
        int bits;
        int waited;
        int doubled;
        /** By NUMBER: a VALUE that is HELD, or HAD, or NONE. */
        final int[] kept = new int[SLOTS];

        FarEnd(Tally counts) {
            tally = counts;
        }

        void vanish() {
            there = false;
            outs.clear();
        }

        void begin(int newKind, int newWindow, int newHold) {
            end();
            there = true;
            kind = newKind;
            window = newWindow;
            hold = newHold;
            from = 0;
            mark = 0;
            bits = 0;
            waited = 0;
            doubled = 0;
            for (int i = 0; i < SLOTS; i++) {
                kept[i] = NONE;
            }
        }

        void end() {
            if (there) {
                moveFrom(window);
                there = false;
            }
        }

        boolean is(int asKind) {
            return kind == asKind || (kind == HASTY && asKind == STRICT);
        }

        boolean hasPlace(int place) {
            return there && within(place, 0, window - 1);
        }

        int keptAt(int place) {
            return kept[slot(from + place)];
        }

        boolean holdsAt(int place) {
            return keptAt(place) > HAD;
        }

        int heldCount() {
            int count = 0;
            for (int k = 0; k < window; k++) {
                count += flag(holdsAt(k));
            }
            return count;
        }

        void comes(int number, int value) {
            if (!there) {
                return;
            }
            if (!isBehind(number, mark)) {
                moveMark(ahead(mark, number) - (window - 1));
                bits |= 1 << ahead(mark, number);
            }
            if (isBehind(number, from)) {
                isDoubled();
                return;
            }
            moveFrom(ahead(from, number) - (window - 1));
            if (kept[slot(number)] != NONE) {
                isDoubled();
            } else if (kind == LOOSE) {
                release(value);
                kept[slot(number)] = HAD;
            } else {
                kept[slot(number)] = value;
            }
            moveOn();
        }

        void bar(int number) {
            if (!there) {
                return;
            }
            if (!isBehind(number, mark)) {
                moveMark(ahead(mark, number));
            }
            if (!isBehind(number, from)) {
                moveFrom(ahead(from, number));
                moveOn();
            }
        }

        void tick() {
            if (!there || kind != HASTY || heldCount() == 0) {
                return;
            }
            waited++;
            if (waited >= hold) {
                moveFrom(firstHeld());
                moveOn();
            }
        }

        int firstHeld() {
            for (int k = 0; k < window; k++) {
                if (holdsAt(k)) {
                    return k;
                }
            }
            return 0;
        }

        void moveMark(int steps) {
            if (steps > 0) {
                mark = round(mark + steps);
                bits = steps < window ? bits >> steps : 0;
            }
        }

        /** What falls out is RELEASED, if it is HELD; a move by no steps is none. */
        void moveFrom(int steps) {
            if (steps <= 0) {
                return;
            }
            for (int k = 0; k < steps && k < window; k++) {
                int place = slot(from + k);
                if (kept[place] > HAD) {
                    release(kept[place]);
                }
                kept[place] = NONE;
            }
            from = round(from + steps);
            waited = 0;
        }

        void moveOn() {
            for (int k = 0; k < WIDEST && keptAt(0) != NONE; k++) {
                moveFrom(1);
            }
        }

        void release(int value) {
            outs.put(value);
            tally.valuesReleased++;
        }

        void isDoubled() {
            doubled++;
            tally.valuesDoubled++;
        }

        int tell(int what) {
            if (what == 0) {
                return flag(there);
            }
            if (!there) {
                return NONE;
            }
            switch (what) {
                case 1: return kind;
                case 2: return window;
                case 3: return from;
                case 4: return mark;
                case 5: return bits;
                case 6: return heldCount();
                case 7: return waited;
                default: return doubled;
            }
        }
    }
}
