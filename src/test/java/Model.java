import java.util.ArrayList;
import java.util.List;
import java.util.TreeMap;

/**
 * The document once more, told as plainly as lists and maps allow and without thought for room:
 * what BoundFrames answers is compared with it. Near NUMBERS are counted on without end here and
 * only told by their rest; the far end steps from NUMBER to NUMBER.
 */
final class Model {
    private static final int NONE = -1, UNKNOWN = -101, OUTSIDE = -102, STATE = -103, FULL = -104;

    private static final class Item {
        int value, length, tried;
        boolean done;
    }

    private static final class Near {
        int state, window, tries, start, lost;
        boolean awaits, bar, barWent;
        List<Item> queue = new ArrayList<>();
        /** From START on to NEXT. */
        List<Item> items = new ArrayList<>();
    }

    private static final class Far {
        int kind, window, hold, from, mark, waited, doubled;
        TreeMap<Integer, Integer> held = new TreeMap<>();
        List<Integer> had = new ArrayList<>();
        List<Integer> came = new ArrayList<>();
    }

    private static final class Sub {
        int number, value, length, check;
    }

    private static final class Mail {
        int of, sort, kind = NONE, window = NONE, hold = NONE, number = NONE, bits = NONE;
        List<Sub> subs = new ArrayList<>();
    }

    private String page = "";
    private String air = null;
    private int time;
    private int airs;
    private int[] counts = new int[7];
    private Near[] nears;
    private Far[] fars;
    private List<List<Integer>> out;
    private List<Mail> mails = new ArrayList<>();

    // ---- texts

    int letter(int code) {
        if (code < 32 || code > 126) return OUTSIDE;
        if (page.length() == 9) return FULL;
        page += (char) code;
        return page.length();
    }

    int blank() {
        int n = page.length();
        page = "";
        return n;
    }

    int fault() {
        String[] allowed = {"123456789", "+", "0123456789", "*", "123456789", ":", "12345678"};
        int place = 0;
        while (place < page.length() && place < 7 && allowed[place].indexOf(page.charAt(place)) >= 0) place++;
        return place;
    }

    int air() {
        if (!page.matches("[1-9][+][0-9][*][1-9]:[1-8]")) return STATE;
        air = page;
        page = "";
        time = 0;
        airs++;
        counts = new int[7];
        nears = new Near[] {new Near(), new Near(), new Near(), new Near()};
        fars = new Far[4];
        out = new ArrayList<>();
        for (int i = 0; i < 4; i++) out.add(new ArrayList<>());
        mails = new ArrayList<>();
        return digit(0) + digit(2);
    }

    private int digit(int place) {
        return air.charAt(place) - '0';
    }

    private int left() {
        int rest = time % (digit(0) + digit(2));
        return rest < digit(0) ? digit(0) - rest : 0;
    }

    private boolean noClass(int of) {
        return air == null || of < 0 || of > 3;
    }

    private Mail send(int of, int sort) {
        Mail m = new Mail();
        m.of = of;
        m.sort = sort;
        mails.add(m);
        counts[0]++;
        return m;
    }

    // ---- the near end

    int open(int of, int kind, int window, int tries, int hold) {
        if (air == null) return STATE;
        if (noClass(of)) return UNKNOWN;
        if (kind < 0 || kind > 2 || window < 1 || window > 15 || tries < 1 || tries > 4 || hold < 1 || hold > 20) return OUTSIDE;
        if (nears[of].state != 0) return STATE;
        for (Mail m : mails) if (m.of == of) return STATE;
        nears[of] = new Near();
        nears[of].state = 1;
        nears[of].tries = tries;
        Mail m = send(of, 0);
        m.kind = kind;
        m.window = window;
        m.hold = hold;
        return mails.size();
    }

    private int undone(Near n) {
        int k = 0;
        for (Item i : n.items) if (!i.done) k++;
        return k;
    }

    int close(int of) {
        if (noClass(of)) return UNKNOWN;
        Near n = nears[of];
        if (n.state != 2 || n.awaits) return STATE;
        nears[of] = new Near();
        send(of, 5);
        return n.queue.size() + undone(n);
    }

    int feed(int of, int value, int length) {
        if (noClass(of)) return UNKNOWN;
        if (value < 1 || value > 999 || length < 1 || length > 20) return OUTSIDE;
        Near n = nears[of];
        if (n.state != 2) return STATE;
        if (n.queue.size() == 24) return FULL;
        Item i = new Item();
        i.value = value;
        i.length = length;
        n.queue.add(i);
        return n.queue.size();
    }

    int bundle(int of) {
        if (noClass(of)) return UNKNOWN;
        Near n = nears[of];
        if (n.state != 2 || n.awaits || left() == 0) return STATE;
        if (n.bar) {
            send(of, 3).number = n.start % 64;
            n.bar = false;
            n.barWent = true;
            n.awaits = true;
            return 0;
        }
        List<Item> all = new ArrayList<>(n.items);
        all.addAll(n.queue);
        List<Sub> subs = new ArrayList<>();
        int lengths = 0;
        for (int k = 0; k < all.size(); k++) {
            Item i = all.get(k);
            if (i.done) continue;
            if (subs.size() + 1 > digit(6) || lengths + i.length > digit(4) * left() || k >= n.window) break;
            Sub s = new Sub();
            s.number = (n.start + k) % 64;
            s.value = i.value;
            s.length = i.length;
            s.check = check(of, s.number, s.value, s.length);
            subs.add(s);
            lengths += i.length;
        }
        if (subs.isEmpty()) return STATE;
        for (Sub s : subs) {
            int k = (s.number - n.start % 64 + 64) % 64;
            if (k == n.items.size()) n.items.add(n.queue.remove(0));
            n.items.get(k).tried++;
        }
        send(of, 2).subs = subs;
        counts[2] += subs.size();
        n.awaits = true;
        n.barWent = false;
        return subs.size();
    }

    private static int check(int... bytes) {
        boolean[] register = new boolean[8];
        int[] five = {bytes[0], bytes[1], bytes[2] / 256, bytes[2] % 256, bytes[3]};
        for (int b : five) {
            for (int i = 0; i < 8; i++) if ((b >> i & 1) == 1) register[i] = !register[i];
            for (int times = 0; times < 8; times++) {
                boolean went = register[7];
                for (int i = 7; i > 0; i--) register[i] = register[i - 1];
                register[0] = false;
                for (int i = 0; i < 3; i++) if (went) register[i] = !register[i];
            }
        }
        int sum = 0;
        for (int i = 0; i < 8; i++) if (register[i]) sum += 1 << i;
        return sum;
    }

    private void giveUp(Near n) {
        for (Item i : n.items) {
            if (!i.done && i.tried == n.tries) {
                i.done = true;
                n.lost++;
                counts[6]++;
                n.bar = true;
            }
        }
        while (!n.items.isEmpty() && n.items.get(0).done) {
            n.items.remove(0);
            n.start++;
        }
        n.awaits = false;
    }

    int expire(int of) {
        if (noClass(of)) return UNKNOWN;
        Near n = nears[of];
        if (!n.awaits && n.state != 1) return STATE;
        int before = mails.size();
        mails.removeIf(m -> m.of == of);
        int lost = before - mails.size();
        counts[1] += lost;
        if (n.state == 1) {
            nears[of] = new Near();
            return lost;
        }
        giveUp(n);
        if (n.barWent) n.bar = true;
        return lost;
    }

    // ---- the air

    int deliver(int place, int damage) {
        if (air == null || place < 0 || place >= mails.size()) return UNKNOWN;
        if (damage < 0 || damage > 255) return OUTSIDE;
        Mail m = mails.remove(place);
        boolean toFar = m.sort == 0 || m.sort == 2 || m.sort == 3 || m.sort == 5;
        if (toFar && left() == 0 || m.sort != 2 && damage != 0) {
            counts[1]++;
            return NONE;
        }
        Near n = nears[m.of];
        switch (m.sort) {
            case 0:
                end(m.of);
                fars[m.of] = new Far();
                fars[m.of].kind = m.kind;
                fars[m.of].window = Math.min(12, m.window);
                fars[m.of].hold = m.hold;
                send(m.of, 1).window = fars[m.of].window;
                return 1;
            case 1:
                if (n.state == 1) {
                    n.state = 2;
                    n.window = m.window;
                }
                return 1;
            case 2:
                return bundleComes(m, damage);
            case 3:
                if (fars[m.of] != null) {
                    barComes(m.of, m.number);
                    answer(m.of);
                }
                return 1;
            case 4:
                if (n.awaits) answerComes(n, m);
                return 1;
            default:
                end(m.of);
                return 1;
        }
    }

    private void answerComes(Near n, Mail m) {
        for (int k = 0; k < n.items.size(); k++) {
            int ahead = ahead(m.number, (n.start + k) % 64);
            if (ahead < n.window && (m.bits / (1 << ahead)) % 2 == 1) n.items.get(k).done = true;
        }
        giveUp(n);
    }

    private int bundleComes(Mail m, int damage) {
        int right = 0;
        for (int k = 0; k < m.subs.size(); k++) {
            Sub s = m.subs.get(k);
            int value = s.value;
            if ((damage >> k) % 2 == 1) value = value % 2 == 0 ? value + 1 : value - 1;
            if (check(m.of, s.number, value, s.length) != s.check) continue;
            right++;
            counts[3]++;
            if (fars[m.of] != null) comes(m.of, s.number, value);
        }
        if (right > 0 && fars[m.of] != null) answer(m.of);
        return right;
    }

    private static int ahead(int a, int b) {
        return b - a < 0 ? b - a + 64 : b - a;
    }

    private static boolean behind(int b, int a) {
        return ahead(a, b) >= 32;
    }

    private void release(int of, int value) {
        out.get(of).add(0, value);
        counts[4]++;
    }

    private void stepMark(Far f) {
        f.came.remove(Integer.valueOf(f.mark));
        f.mark = (f.mark + 1) % 64;
    }

    private void stepFrom(int of) {
        Far f = fars[of];
        if (f.held.containsKey(f.from)) release(of, f.held.remove(f.from));
        f.had.remove(Integer.valueOf(f.from));
        f.from = (f.from + 1) % 64;
        f.waited = 0;
    }

    private void on(int of) {
        Far f = fars[of];
        while (f.held.containsKey(f.from) || f.had.contains(f.from)) stepFrom(of);
    }

    private void comes(int of, int number, int value) {
        Far f = fars[of];
        if (!behind(number, f.mark)) {
            while (ahead(f.mark, number) >= f.window) stepMark(f);
            if (!f.came.contains(number)) f.came.add(number);
        }
        if (behind(number, f.from)) {
            f.doubled++;
            counts[5]++;
            return;
        }
        while (ahead(f.from, number) >= f.window) stepFrom(of);
        if (f.held.containsKey(number) || f.had.contains(number)) {
            f.doubled++;
            counts[5]++;
        } else if (f.kind == 2) {
            release(of, value);
            f.had.add(number);
        } else {
            f.held.put(number, value);
        }
        on(of);
    }

    private void barComes(int of, int number) {
        Far f = fars[of];
        if (!behind(number, f.mark)) while (f.mark != number) stepMark(f);
        if (!behind(number, f.from)) {
            while (f.from != number) stepFrom(of);
            on(of);
        }
    }

    private void end(int of) {
        if (fars[of] == null) return;
        while (!fars[of].held.isEmpty()) stepFrom(of);
        fars[of] = null;
    }

    private int bits(Far f) {
        int bits = 0;
        for (int number : f.came) bits += 1 << ahead(f.mark, number);
        return bits;
    }

    private void answer(int of) {
        Mail m = send(of, 4);
        m.number = fars[of].mark;
        m.bits = bits(fars[of]);
    }

    int lose(int place) {
        if (air == null || place < 0 || place >= mails.size()) return UNKNOWN;
        counts[1]++;
        return mails.remove(place).sort;
    }

    int pass(int n) {
        if (n < 1 || n > 60) return OUTSIDE;
        if (air == null) return STATE;
        for (int i = 0; i < n; i++) {
            time++;
            for (int of = 0; of < 4; of++) {
                Far f = fars[of];
                if (f == null || f.kind != 1 || f.held.isEmpty()) continue;
                f.waited++;
                if (f.waited == f.hold) {
                    while (!f.held.containsKey(f.from)) stepFrom(of);
                    on(of);
                }
            }
        }
        return time;
    }

    // ---- what is told

    int about(int what) {
        if (what < 0 || what > 6) return OUTSIDE;
        if (air == null) return STATE;
        if (what < 4) return digit(2 * what);
        return what == 4 ? time : what == 5 ? Math.min(1, left()) : left();
    }

    int near(int of, int what) {
        if (noClass(of)) return UNKNOWN;
        if (what < 0 || what > 9) return OUTSIDE;
        Near n = nears[of];
        if (what == 0) return n.state;
        if (n.state != 2) return NONE;
        int[] all = {0, n.window, n.tries, n.start % 64, (n.start + n.items.size()) % 64, n.queue.size(), undone(n),
            n.awaits ? 1 : 0, n.bar ? 1 : 0, n.lost};
        return all[what];
    }

    int given(int of, int place, int what) {
        if (noClass(of) || nears[of].state != 2 || place < 0 || place >= nears[of].items.size()) return UNKNOWN;
        if (what < 0 || what > 4) return OUTSIDE;
        Item i = nears[of].items.get(place);
        int[] all = {(nears[of].start + place) % 64, i.value, i.length, i.tried, i.done ? 1 : 0};
        return all[what];
    }

    int far(int of, int what) {
        if (noClass(of)) return UNKNOWN;
        if (what < 0 || what > 8) return OUTSIDE;
        Far f = fars[of];
        if (f == null) return what == 0 ? 0 : NONE;
        int[] all = {1, f.kind, f.window, f.from, f.mark, bits(f), f.held.size(), f.waited, f.doubled};
        return all[what];
    }

    int held(int of, int place) {
        if (noClass(of) || fars[of] == null || place < 0 || place >= fars[of].window) return UNKNOWN;
        int number = (fars[of].from + place) % 64;
        if (fars[of].had.contains(number)) return 0;
        return fars[of].held.getOrDefault(number, NONE);
    }

    int as(int of, int kind) {
        if (noClass(of) || fars[of] == null) return UNKNOWN;
        if (kind < 0 || kind > 2) return OUTSIDE;
        int is = fars[of].kind;
        return is == kind || is == 1 && kind == 0 ? is : NONE;
    }

    int released(int of, int place) {
        if (noClass(of) || place < 0 || place > 9 || place >= out.get(of).size()) return UNKNOWN;
        return out.get(of).get(place);
    }

    int under(int place, int what) {
        if (air == null || place < 0 || place >= mails.size()) return UNKNOWN;
        if (what < 0 || what > 5) return OUTSIDE;
        Mail m = mails.get(place);
        int[] all = {m.sort, m.of, m.subs.size(), m.number, m.bits, m.window};
        return all[what];
    }

    int frame(int place, int frame, int what) {
        if (air == null || place < 0 || place >= mails.size()) return UNKNOWN;
        if (frame < 0 || frame >= mails.get(place).subs.size()) return UNKNOWN;
        if (what < 0 || what > 3) return OUTSIDE;
        Sub s = mails.get(place).subs.get(frame);
        int[] all = {s.number, s.value, s.length, s.check};
        return all[what];
    }

    int count(int what) {
        if (what < 0 || what > 9) return OUTSIDE;
        if (what < 7) return counts[what];
        return what == 7 ? mails.size() : what == 8 ? page.length() : airs;
    }

    long digest() {
        List<Integer> all = new ArrayList<>();
        if (air != null) {
            for (int w = 0; w < 7; w++) all.add(about(w));
            for (int of = 0; of < 4; of++) {
                for (int w = 0; w < 10; w++) all.add(near(of, w));
                for (int p = 0; given(of, p, 0) != UNKNOWN; p++) for (int w = 0; w < 5; w++) all.add(given(of, p, w));
                for (int w = 0; w < 9; w++) all.add(far(of, w));
                for (int p = 0; held(of, p) != UNKNOWN; p++) all.add(held(of, p));
                for (int p = 0; released(of, p) != UNKNOWN; p++) all.add(released(of, p));
            }
            for (int p = 0; p < mails.size(); p++) {
                for (int w = 0; w < 6; w++) all.add(under(p, w));
                for (int f = 0; f < mails.get(p).subs.size(); f++) for (int w = 0; w < 4; w++) all.add(frame(p, f, w));
            }
        }
        for (int i = 0; i < page.length(); i++) all.add((int) page.charAt(i));
        for (int w = 0; w < 10; w++) all.add(count(w));
        long h = 1543;
        for (int number : all) h = 31 * h + number;
        return h;
    }
}
