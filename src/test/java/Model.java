import java.util.ArrayDeque;
import java.util.ArrayList;
import java.util.Arrays;
import java.util.Deque;
import java.util.HashMap;
import java.util.List;
import java.util.Map;
import java.util.regex.Matcher;
import java.util.regex.Pattern;

/**
 * The document once more, written apart from the class and in another way: by trying things out hour
 * by hour rather than by reckoning, and without care for what that costs.
 */
final class Model {
    static final int NONE = -1;
    static final int UNKNOWN = -1000000001;
    static final int OUTSIDE = -1000000002;
    static final int NOT = -1000000003;
    static final int FULL = -1000000004;

    record Beck(int to, int far, int sort, int key) { }

    record Talk(int word, int from, int toGo, int said) { }

    record Heard(int who, int word, int hour, int said) { }

    /** What section 2 tells; copied whole for whatever is tried. */
    static final class State {
        int hours;
        int flow;
        boolean frost;
        boolean[] dammed = new boolean[9];
        boolean[] smoothed = new boolean[9];
        int contradicted;
        List<Talk> talks = new ArrayList<>();
        List<Heard> heard = new ArrayList<>();

        State copy() {
            State s = new State();
            s.hours = hours;
            s.flow = flow;
            s.frost = frost;
            s.dammed = dammed.clone();
            s.smoothed = smoothed.clone();
            s.contradicted = contradicted;
            s.talks = new ArrayList<>(talks);
            s.heard = new ArrayList<>(heard);
            return s;
        }
    }

    private final StringBuilder text = new StringBuilder();
    private int faultAt = NONE;
    private int words;
    private List<Beck> becks = new ArrayList<>();
    private State now = new State();
    private Deque<State> past = new ArrayDeque<>();
    private final State[] images = new State[2];
    private final long[] imageSeeds = new long[2];
    private long seed;
    private final List<int[]> seen = new ArrayList<>();
    private final List<int[]> book = new ArrayList<>();

    // ---- the dale

    int feed(int letter) {
        if (letter < 0 || letter > 255) {
            return OUTSIDE;
        }
        if (text.length() == 240) {
            return FULL;
        }
        text.append((char) letter);
        return text.length();
    }

    private static final class Fault extends Exception {
        private static final long serialVersionUID = 1L;
        final int number;
        final int at;

        Fault(int number, int at) {
            this.number = number;
            this.at = at;
        }
    }

    int dale() {
        String whole = text.toString();
        text.setLength(0);
        int readWords = 0;
        int readFlow = 0;
        List<Beck> readBecks = new ArrayList<>();
        try {
            int at = 0;
            // What is due next, as one letter: w a word, n a number, e the end of a clause.
            List<Integer> numbers = new ArrayList<>();
            char clause = 0;
            Matcher m = Pattern.compile(" +|[0-9]+|[\\s\\S]").matcher(whole);
            while (m.find()) {
                String token = m.group();
                at = m.start();
                if (token.charAt(0) == ' ') {
                    continue;
                }
                int due = clause == 0 ? 0 : clause == 'b' ? 2 : 4;
                if (clause == 0) {
                    boolean some = !readBecks.isEmpty();
                    if (token.equals("b")) {
                        if (some) {
                            throw new Fault(3, at);
                        }
                    } else if (!token.equals("f") || !some) {
                        throw new Fault(1, at);
                    } else if (readBecks.size() == 9) {
                        throw new Fault(3, at);
                    }
                    clause = token.charAt(0);
                    numbers.clear();
                } else if (numbers.size() < due) {
                    if (!Character.isDigit(token.charAt(0)) || token.charAt(0) > 127) {
                        throw new Fault(1, at);
                    }
                    int k = numbers.size();
                    int least = clause == 'b' ? new int[] {2, 0}[k] : new int[] {0, 1, 0, 0}[k];
                    int most = clause == 'b' ? 9 : new int[] {readBecks.size() - 1, 9, 4, readWords - 1}[k];
                    if (token.length() > 3 || Integer.parseInt(token) < least || Integer.parseInt(token) > most) {
                        throw new Fault(2, at);
                    }
                    numbers.add(Integer.parseInt(token));
                } else {
                    if (!token.equals(";")) {
                        throw new Fault(1, at);
                    }
                    if (clause == 'b') {
                        readWords = numbers.get(0);
                        readFlow = numbers.get(1);
                        readBecks.add(new Beck(NONE, 0, 0, 0));
                    } else {
                        readBecks.add(new Beck(numbers.get(0), numbers.get(1), numbers.get(2), numbers.get(3)));
                    }
                    clause = 0;
                }
            }
            if (clause != 0) {
                throw new Fault(1, whole.length());
            }
        } catch (Fault f) {
            faultAt = f.at;
            return -10 - f.number;
        }
        faultAt = NONE;
        words = readWords;
        becks = readBecks;
        now = new State();
        now.flow = readFlow;
        past.clear();
        Arrays.fill(images, null);
        seen.clear();
        book.clear();
        return becks.size();
    }

    int fault() {
        return faultAt;
    }

    int told(int what) {
        switch (what) {
            case 0: return words;
            case 1: return becks.size();
            case 2: return text.length();
            case 3: return now.hours;
            case 4: return now.flow;
            case 5: return now.frost ? 1 : 0;
            case 6: return dammedSet();
            case 7: return now.talks.size();
            case 8: return now.contradicted;
            case 9: return loudest();
            case 10: return bottom();
            case 11: return even();
            case 12: return longest();
            case 13: return Math.min(20, now.heard.size());
            case 14: return seen.size();
            case 15: return book.size();
            case 16: return past.size();
            default: return OUTSIDE;
        }
    }

    private int dammedSet() {
        int set = 0;
        for (int a = 0; a < 9; a++) {
            set += now.dammed[a] ? 1 << a : 0;
        }
        return set;
    }

    private int loudest() {
        int who = NONE;
        for (int a = becks.size() - 1; a >= 0; a--) {
            if (times(now, a) > 0 && (who == NONE || times(now, a) >= times(now, who))) {
                who = a;
            }
        }
        return who;
    }

    private int bottom() {
        int who = NONE;
        for (int a = becks.size() - 1; a >= 1; a--) {
            if (who == NONE || Integer.bitCount(up(a)) >= Integer.bitCount(up(who))) {
                who = a;
            }
        }
        return who;
    }

    private int even() {
        int set = 0;
        for (int a = 0; a < becks.size(); a++) {
            boolean all = true;
            for (int w = 0; w < words; w++) {
                all &= becomes(a, 0, w) == w;
            }
            set += all ? 1 << a : 0;
        }
        return set;
    }

    private int longest() {
        int who = NONE;
        for (int a = becks.size() - 1; a >= 0; a--) {
            int hours = takes(a, 0);
            if (hours != NONE && (who == NONE || hours >= takes(who, 0))) {
                who = a;
            }
        }
        return who;
    }

    private static int times(State s, int a) {
        int times = 0;
        for (Heard h : s.heard) {
            times += h.who == a ? 1 : 0;
        }
        return times;
    }

    private static int latest(State s, int a) {
        int latest = NONE;
        for (Heard h : s.heard) {
            latest = h.who == a ? h.word : latest;
        }
        return latest;
    }

    private boolean farmIs(int a) {
        return a >= 0 && a < becks.size();
    }

    private boolean wordIs(int w) {
        return w >= 0 && w < words;
    }

    private boolean setIs(int set) {
        for (int k = 0; k < 32; k++) {
            if ((set >>> k & 1) == 1 && !farmIs(k)) {
                return false;
            }
        }
        return true;
    }

    int farm(int a, int what) {
        if (!farmIs(a)) {
            return UNKNOWN;
        }
        if (what < 0 || what > 5) {
            return OUTSIDE;
        }
        Beck b = becks.get(a);
        return new int[] {b.to, b.far, now.smoothed[a] ? 0 : b.sort, b.key, latest(now, a), times(now, a)}[what];
    }

    int talk(int i, int what) {
        if (i < 0 || i >= now.talks.size()) {
            return UNKNOWN;
        }
        if (what < 0 || what > 3) {
            return OUTSIDE;
        }
        Talk t = now.talks.get(i);
        return new int[] {t.word, t.from, t.toGo, t.said}[what];
    }

    int logged(int i, int what) {
        if (what < 0 || what > 3) {
            return OUTSIDE;
        }
        if (i < 0 || i >= 20 || i >= now.heard.size()) {
            return NONE;
        }
        Heard h = now.heard.get(now.heard.size() - 1 - i);
        return new int[] {h.who, h.word, h.hour, h.said}[what];
    }

    // ---- what is done

    private static int fall(int sort, int key, int words, int w) {
        if (sort == 1) {
            return (w + key) % words;
        }
        if (sort == 2) {
            return Math.min(w, key);
        }
        if (sort == 3) {
            return words - 1 - w;
        }
        return sort == 4 ? Math.max(w, key) : w;
    }

    private void passHour(State s, boolean flowStays) {
        Map<Integer, List<Integer>> hearers = new HashMap<>();
        if (!s.frost && s.flow > 0) {
            List<Talk> going = new ArrayList<>();
            for (Talk t : s.talks) {
                Beck b = becks.get(t.from);
                if (t.toGo > s.flow) {
                    going.add(new Talk(t.word, t.from, t.toGo - s.flow, t.said));
                    continue;
                }
                int word = t.word;
                for (int n = 0; n < (s.flow > 6 ? 2 : 1); n++) {
                    word = fall(s.smoothed[t.from] ? 0 : b.sort, b.key, words, word);
                }
                s.heard.add(new Heard(b.to, word, s.hours, t.said));
                hearers.computeIfAbsent(b.to, k -> new ArrayList<>()).add(word);
                if (b.to != 0 && !s.dammed[b.to]) {
                    going.add(new Talk(word, b.to, 4 * becks.get(b.to).far, t.said));
                }
            }
            s.talks = going;
        }
        for (List<Integer> heard : hearers.values()) {
            s.contradicted += heard.stream().distinct().count() > 1 ? 1 : 0;
        }
        if (s.hours % 6 == 5 && !flowStays) {
            s.flow = Math.max(0, s.flow - 1);
        }
        s.hours++;
    }

    private void keepPast() {
        past.addLast(now.copy());
        if (past.size() > 16) {
            past.removeFirst();
        }
    }

    int hour(int n) {
        if (n < 1 || n > 60) {
            return OUTSIDE;
        }
        if (becks.isEmpty()) {
            return NOT;
        }
        if (now.hours > 9000) {
            return FULL;
        }
        keepPast();
        for (int h = 0; h < n; h++) {
            passHour(now, false);
        }
        return now.talks.size();
    }

    int say(int a, int w) {
        if (!farmIs(a) || !wordIs(w)) {
            return UNKNOWN;
        }
        if (a == 0) {
            return NOT;
        }
        if (now.talks.size() == 12) {
            return FULL;
        }
        keepPast();
        now.talks.add(new Talk(w, a, 4 * becks.get(a).far, a));
        return now.talks.size();
    }

    int rain(int n) {
        if (n < 0 || n > 9) {
            return OUTSIDE;
        }
        if (becks.isEmpty()) {
            return NOT;
        }
        keepPast();
        int was = now.flow;
        now.flow = n;
        return was;
    }

    int frost(boolean is) {
        if (becks.isEmpty()) {
            return NOT;
        }
        keepPast();
        boolean was = now.frost;
        now.frost = is;
        return was ? 1 : 0;
    }

    int dam(int a, boolean is) {
        if (!farmIs(a)) {
            return UNKNOWN;
        }
        if (a == 0) {
            return NOT;
        }
        keepPast();
        boolean was = now.dammed[a];
        now.dammed[a] = is;
        return was ? 1 : 0;
    }

    int smooth(int a) {
        if (!farmIs(a)) {
            return UNKNOWN;
        }
        if (a == 0) {
            return NOT;
        }
        int was = farm(a, 2);
        keepPast();
        now.smoothed[a] = true;
        return was;
    }

    int hush(int i) {
        if (i < 0 || i >= now.talks.size()) {
            return UNKNOWN;
        }
        keepPast();
        now.talks.remove(i);
        return now.talks.size();
    }

    private int draw(int n) {
        seed = (seed * 1103515245L + 12345L) % (1L << 31);
        return (int) (seed / 65536 % n);
    }

    int drift(int n) {
        if (n < 1 || n > 60) {
            return OUTSIDE;
        }
        if (becks.isEmpty()) {
            return NOT;
        }
        if (now.hours > 9000) {
            return FULL;
        }
        keepPast();
        for (int h = 0; h < n; h++) {
            int kind = draw(5);
            if (kind == 0) {
                now.flow = draw(10);
            }
            if (kind == 1 && becks.size() > 1) {
                int a = 1 + draw(becks.size() - 1);
                int w = draw(words);
                if (now.talks.size() < 12) {
                    now.talks.add(new Talk(w, a, 4 * becks.get(a).far, a));
                }
            }
            if (kind == 2) {
                now.frost = !now.frost;
            }
            passHour(now, false);
        }
        return now.talks.size();
    }

    int undo() {
        if (past.isEmpty()) {
            return NOT;
        }
        now = past.removeLast();
        return past.size();
    }

    // ---- tried

    // Says the word alone, with no frost and a flow that stays, and waits till it is over.
    private List<Heard> tryOut(int a, int w, int flow) {
        State s = now.copy();
        s.frost = false;
        s.flow = flow;
        s.hours = 0;
        s.heard.clear();
        s.talks.clear();
        if (a != 0) {
            s.talks.add(new Talk(w, a, 4 * becks.get(a).far, a));
        }
        while (!s.talks.isEmpty()) {
            passHour(s, true);
        }
        return s.heard;
    }

    int down(int a) {
        if (!farmIs(a)) {
            return UNKNOWN;
        }
        int set = 0;
        for (Heard h : tryOut(a, 0, 9)) {
            set |= 1 << h.who;
        }
        return set;
    }

    int up(int a) {
        if (!farmIs(a)) {
            return UNKNOWN;
        }
        int set = 0;
        for (int b = 0; b < becks.size(); b++) {
            set |= (down(b) >> a & 1) << b;
        }
        return set;
    }

    int becomes(int a, int b, int w) {
        if (!farmIs(a) || !farmIs(b) || !wordIs(w)) {
            return UNKNOWN;
        }
        // Without flow nothing would come; falls do what they do with the least.
        for (Heard h : tryOut(a, w, Math.max(1, now.flow))) {
            if (h.who == b) {
                return h.word;
            }
        }
        return NONE;
    }

    int takes(int a, int b) {
        if (!farmIs(a) || !farmIs(b)) {
            return UNKNOWN;
        }
        if (now.flow == 0) {
            return NONE;
        }
        for (Heard h : tryOut(a, 0, now.flow)) {
            if (h.who == b) {
                return h.hour + 1;
            }
        }
        return NONE;
    }

    int toSay(int a, int b, int v) {
        if (!farmIs(a) || !farmIs(b) || !wordIs(v)) {
            return UNKNOWN;
        }
        int set = 0;
        for (int w = 0; w < words; w++) {
            set |= becomes(a, b, w) == v ? 1 << w : 0;
        }
        return set;
    }

    int origin(int b, int v, int a) {
        if (!farmIs(b) || !wordIs(v) || a != NONE && !farmIs(a)) {
            return UNKNOWN;
        }
        if (a != NONE) {
            return toSay(a, b, v);
        }
        int pairs = 0;
        for (int from = 0; from < becks.size(); from++) {
            pairs += Integer.bitCount(toSay(from, b, v));
        }
        return pairs;
    }

    int privately(int set) {
        if (!setIs(set)) {
            return UNKNOWN;
        }
        int safe = 0;
        for (int a = 1; a < becks.size(); a++) {
            safe |= (down(a) & set) == 0 ? 1 << a : 0;
        }
        return safe;
    }

    // Tries every set of dams.
    int dams(int a, int set) {
        if (!farmIs(a) || !setIs(set)) {
            return UNKNOWN;
        }
        boolean[] was = now.dammed.clone();
        int best = NONE;
        for (int more = 0; more < 1 << becks.size(); more += 2) {
            for (int k = 1; k < 9; k++) {
                now.dammed[k] = was[k] || (more >> k & 1) == 1;
            }
            boolean fewer = best == NONE || Integer.bitCount(more) < Integer.bitCount(best);
            if (fewer && (down(a) & set) == 0) {
                best = more;
            }
        }
        now.dammed = was;
        return best;
    }

    int willHear(int a, int n, int what) {
        if (!farmIs(a)) {
            return UNKNOWN;
        }
        if (n < 0 || n > 100 || what < 0 || what > 1) {
            return OUTSIDE;
        }
        State s = now.copy();
        for (int h = 0; h < n; h++) {
            passHour(s, false);
        }
        return what == 0 ? times(s, a) - times(now, a) : latest(s, a);
    }

    int where(int i, int n, int what) {
        if (i < 0 || i >= now.talks.size()) {
            return UNKNOWN;
        }
        if (n < 0 || n > 100 || what < 0 || what > 1) {
            return OUTSIDE;
        }
        State s = now.copy();
        s.talks = new ArrayList<>(List.of(now.talks.get(i)));
        for (int h = 0; h < n; h++) {
            passHour(s, false);
        }
        return s.talks.isEmpty() ? NONE : what == 0 ? s.talks.get(0).from : s.talks.get(0).word;
    }

    int dry(int n, int q) {
        if (n < 0 || n > 60 || q < 0 || q > 100) {
            return OUTSIDE;
        }
        return n == 0 ? 1000000000 : (int) ((long) dry(n - 1, q) * q / 100);
    }

    // ---- what is seen

    int see(int w, int v) {
        if (!wordIs(w) || !wordIs(v)) {
            return UNKNOWN;
        }
        if (seen.size() == 6) {
            return FULL;
        }
        seen.add(new int[] {w, v});
        return seen.size();
    }

    private List<int[]> fitting() {
        List<int[]> all = new ArrayList<>();
        if (words > 0) {
            all.add(new int[] {0, 0});
            for (int k = 1; k < words; k++) {
                all.add(new int[] {1, k});
            }
            for (int k = 0; k <= words - 2; k++) {
                all.add(new int[] {2, k});
            }
            all.add(new int[] {3, 0});
            for (int k = 1; k < words; k++) {
                all.add(new int[] {4, k});
            }
        }
        all.removeIf(f -> seen.stream().anyMatch(s -> fall(f[0], f[1], words, s[0]) != s[1]));
        return all;
    }

    int falls(int what) {
        if (what < 0 || what > 1) {
            return OUTSIDE;
        }
        List<int[]> fits = fitting();
        if (what == 0) {
            return fits.size();
        }
        return fits.isEmpty() ? NONE : 10 * fits.get(0)[0] + fits.get(0)[1];
    }

    int tryNext() {
        List<int[]> fits = fitting();
        int best = NONE;
        int least = Integer.MAX_VALUE;
        for (int w = 0; w < words; w++) {
            Map<Integer, Integer> parts = new HashMap<>();
            for (int[] f : fits) {
                parts.merge(fall(f[0], f[1], words, w), 1, Integer::sum);
            }
            int greatest = parts.values().stream().max(Integer::compare).orElse(0);
            if (parts.size() > 1 && greatest < least) {
                least = greatest;
                best = w;
            }
        }
        return best;
    }

    int write(int a, int w) {
        if (!farmIs(a) || w != NONE && !wordIs(w)) {
            return UNKNOWN;
        }
        if (book.size() == 15) {
            return FULL;
        }
        book.add(new int[] {a, w});
        return book.size();
    }

    int tear() {
        int had = seen.size() + book.size();
        seen.clear();
        book.clear();
        return had;
    }

    int judge() {
        for (int i = 0; i < book.size(); i++) {
            if (latest(now, book.get(i)[0]) != book.get(i)[1]) {
                return i;
            }
        }
        return NONE;
    }

    // ---- draws, images

    int seed(int v) {
        if (v < 0) {
            return OUTSIDE;
        }
        int was = (int) seed;
        seed = v;
        return was;
    }

    int keep(int i) {
        if (i != 0 && i != 1) {
            return UNKNOWN;
        }
        images[i] = now.copy();
        imageSeeds[i] = seed;
        past.clear();
        return 1;
    }

    int goBack(int i) {
        if (i != 0 && i != 1) {
            return UNKNOWN;
        }
        if (images[i] == null) {
            return NOT;
        }
        now = images[i].copy();
        seed = imageSeeds[i];
        past.clear();
        return 1;
    }
}
