import java.util.Arrays;

/**
 * Becks carry the talk: what is said at a farm goes down by the beck and is heard, garbled by the
 * falls, at the next, as ../shared/DOC.md promises.
 */
public final class BeckTalk {
    public static final int NONE = -1, UNKNOWN = -1000000001, OUTSIDE = -1000000002, NOT = -1000000003, FULL = -1000000004;

    private static final long BILLION = 1000000000L;
    private static final int MOST_LETTERS = 240;
    private static final int MOST_FARMS = 9;
    private static final int MOST_WORDS = 9;
    private static final int MOST_FLOW = 9;
    private static final int MOST_TALKS = 12;
    private static final int MOST_LOGGED = 20;
    private static final int MOST_COUNTED = 999999;
    private static final int MOST_AT_ONCE = 60;
    private static final int MOST_AHEAD = 100;
    private static final int LAST_HOUR = 9000;
    private static final int MOST_UNDONE = 16;
    private static final int MOST_IMAGES = 2;
    private static final int MOST_SEEN = 6;
    private static final int MOST_WRITTEN = 15;
    private static final int SHOUTING_FLOW = 7;
    private static final int STEPS_A_LENGTH = 4;
    private static final int ESTUARY = 0;
    private static final int MOST_FALLS = 50;

    // A talk and an entry of the log are each four cells of one row, in the order of talk() and logged().
    private static final int CELLS = 4;
    private static final int TALK_WORD = 0;
    private static final int TALK_FROM = 1;
    private static final int TALK_TO_GO = 2;
    private static final int TALK_SAID = 3;
    private static final int LOG_WHO = 0;
    private static final int LOG_WORD = 1;
    private static final int LOG_HOUR = 2;
    private static final int LOG_SAID = 3;

    private final Reader reader;
    private final Dale land;
    private final Dale draft;
    // Not begun ahead of the first dale: without one there is no farm to ask it for.
    private final World now;
    private final World ahead;
    private final Past past;
    private final World[] images;
    private final int[] imageSeeds;
    private int imagesKept;
    private int seedNow;
    private final Guess guess;
    private final Book book;

    public BeckTalk() {
        reader = new Reader();
        land = new Dale();
        draft = new Dale();
        now = new World();
        ahead = new World();
        past = new Past();
        images = new World[MOST_IMAGES];
        for (int i = 0; i < images.length; i++) {
            images[i] = new World();
        }
        imageSeeds = new int[MOST_IMAGES];
        guess = new Guess();
        book = new Book();
    }

    // ---- the dale

    public int feed(int letter) {
        if (letter < 0 || letter > 255) {
            return OUTSIDE;
        }
        if (reader.length >= MOST_LETTERS) {
            return FULL;
        }
        put(reader.text, reader.length, letter);
        reader.length++;
        return reader.length;
    }

    public int dale() {
        reader.readInto(draft);
        reader.length = 0;
        if (reader.fault != 0) {
            return -10 - reader.fault;
        }
        land.copyFrom(draft);
        now.begin(land);
        guess.count = 0;
        book.count = 0;
        imagesKept = 0;
        past.count = 0;
        return land.farms;
    }

    public int fault() {
        return reader.faultAt;
    }

    public int told(int what) {
        switch (what) {
            case 0: return land.words;
            case 1: return land.farms;
            case 2: return reader.length;
            case 3: return now.hours;
            case 4: return now.flow;
            case 5: return now.frost ? 1 : 0;
            case 6: return now.dammed;
            case 7: return now.talks;
            case 8: return now.contradicted;
            case 9: return loudest();
            case 10: return bottom();
            case 11: return even();
            case 12: return longest();
            case 13: return now.logCount;
            case 14: return guess.count;
            case 15: return book.count;
            case 16: return past.count;
            default: return OUTSIDE;
        }
    }

    public int farm(int a, int what) {
        if (!isFarm(a)) {
            return UNKNOWN;
        }
        switch (what) {
            case 0: return a == ESTUARY ? NONE : cell(land.next, a);
            case 1: return cell(land.far, a);
            case 2: return cell(now.sort, a);
            case 3: return cell(land.key, a);
            case 4: return cell(now.latest, a);
            case 5: return cell(now.heard, a);
            default: return OUTSIDE;
        }
    }

    public int talk(int i, int what) {
        if (!isTalk(i)) {
            return UNKNOWN;
        }
        if (what < 0 || what >= CELLS) {
            return OUTSIDE;
        }
        return now.ofTalk(i, what);
    }

    public int logged(int i, int what) {
        if (what < 0 || what >= CELLS) {
            return OUTSIDE;
        }
        if (i < 0 || i >= now.logCount) {
            return NONE;
        }
        return now.ofLog(i, what);
    }

    // ---- what is done

    public int hour(int n) {
        int refusal = hoursRefused(n);
        if (refusal != 0) {
            return refusal;
        }
        past.remember(now);
        now.passHours(land, n);
        return now.talks;
    }

    public int say(int a, int w) {
        if (!isFarm(a) || !isWord(w)) {
            return UNKNOWN;
        }
        if (a == ESTUARY) {
            return NOT;
        }
        if (now.talks >= MOST_TALKS) {
            return FULL;
        }
        past.remember(now);
        now.enterTalk(land, a, w);
        return now.talks;
    }

    public int rain(int n) {
        if (n < 0 || n > MOST_FLOW) {
            return OUTSIDE;
        }
        if (land.farms == 0) {
            return NOT;
        }
        past.remember(now);
        int was = now.flow;
        now.flow = n;
        return was;
    }

    public int frost(boolean is) {
        if (land.farms == 0) {
            return NOT;
        }
        past.remember(now);
        int was = now.frost ? 1 : 0;
        now.frost = is;
        return was;
    }

    public int dam(int a, boolean is) {
        if (!isFarm(a)) {
            return UNKNOWN;
        }
        if (a == ESTUARY) {
            return NOT;
        }
        past.remember(now);
        int was = holds(now.dammed, a) ? 1 : 0;
        now.dammed = is ? now.dammed | 1 << a : now.dammed & ~(1 << a);
        return was;
    }

    public int smooth(int a) {
        if (!isFarm(a)) {
            return UNKNOWN;
        }
        if (a == ESTUARY) {
            return NOT;
        }
        past.remember(now);
        int was = cell(now.sort, a);
        put(now.sort, a, 0);
        return was;
    }

    public int hush(int i) {
        if (!isTalk(i)) {
            return UNKNOWN;
        }
        past.remember(now);
        now.endTalk(i);
        return now.talks;
    }

    public int drift(int n) {
        int refusal = hoursRefused(n);
        if (refusal != 0) {
            return refusal;
        }
        past.remember(now);
        for (int h = 0; h < n; h++) {
            befall();
            now.pass(land);
        }
        return now.talks;
    }

    public int undo() {
        if (past.count == 0) {
            return NOT;
        }
        past.bringBack(now);
        return past.count;
    }

    // ---- tried

    public int down(int a) {
        return isFarm(a) ? downOf(a) : UNKNOWN;
    }

    public int up(int a) {
        return isFarm(a) ? upOf(a) : UNKNOWN;
    }

    public int becomes(int a, int b, int w) {
        if (!isFarm(a) || !isFarm(b) || !isWord(w)) {
            return UNKNOWN;
        }
        return wordAt(a, b, w);
    }

    public int takes(int a, int b) {
        if (!isFarm(a) || !isFarm(b)) {
            return UNKNOWN;
        }
        return hoursTo(a, b);
    }

    public int toSay(int a, int b, int v) {
        if (!isFarm(a) || !isFarm(b) || !isWord(v)) {
            return UNKNOWN;
        }
        return wordsFor(a, b, v);
    }

    public int origin(int b, int v, int a) {
        if (!isFarm(b) || !isWord(v) || a != NONE && !isFarm(a)) {
            return UNKNOWN;
        }
        if (a != NONE) {
            return wordsFor(a, b, v);
        }
        int pairs = 0;
        for (int from = 0; from < land.farms; from++) {
            pairs += Integer.bitCount(wordsFor(from, b, v));
        }
        return pairs;
    }

    public int privately(int set) {
        if (!areFarms(set)) {
            return UNKNOWN;
        }
        int safe = 0;
        for (int a = 1; a < land.farms; a++) {
            if ((downOf(a) & set) == 0) {
                safe |= 1 << a;
            }
        }
        return safe;
    }

    public int dams(int a, int set) {
        if (!isFarm(a) || !areFarms(set)) {
            return UNKNOWN;
        }
        return fewestDams(a, set);
    }

    public int willHear(int a, int n, int what) {
        if (!isFarm(a)) {
            return UNKNOWN;
        }
        if (n < 0 || n > MOST_AHEAD || what < 0 || what > 1) {
            return OUTSIDE;
        }
        ahead.copyFrom(now);
        put(ahead.heard, a, 0);
        ahead.passHours(land, n);
        return cell(what == 0 ? ahead.heard : ahead.latest, a);
    }

    public int where(int i, int n, int what) {
        if (!isTalk(i)) {
            return UNKNOWN;
        }
        if (n < 0 || n > MOST_AHEAD || what < 0 || what > 1) {
            return OUTSIDE;
        }
        ahead.copyFrom(now);
        ahead.leaveOnly(i);
        ahead.passHours(land, n);
        if (ahead.talks == 0) {
            return NONE;
        }
        return ahead.ofTalk(0, what == 0 ? TALK_FROM : TALK_WORD);
    }

    public int dry(int n, int q) {
        if (n < 0 || n > 60 || q < 0 || q > 100) {
            return OUTSIDE;
        }
        long odds = BILLION;
        for (int day = 0; day < n; day++) {
            odds = odds * q / 100;
        }
        return (int) odds;
    }

    // ---- what is seen

    public int see(int w, int v) {
        if (!isWord(w) || !isWord(v)) {
            return UNKNOWN;
        }
        if (guess.count >= MOST_SEEN) {
            return FULL;
        }
        guess.add(w, v);
        return guess.count;
    }

    public int falls(int what) {
        if (what < 0 || what > 1) {
            return OUTSIDE;
        }
        return what == 0 ? guess.howMany(land.words) : guess.first(land.words);
    }

    public int tryNext() {
        return guess.bestWord(land.words);
    }

    public int write(int a, int w) {
        if (!isFarm(a) || w != NONE && !isWord(w)) {
            return UNKNOWN;
        }
        if (book.count >= MOST_WRITTEN) {
            return FULL;
        }
        book.add(a, w);
        return book.count;
    }

    public int tear() {
        int had = guess.count + book.count;
        guess.count = 0;
        book.count = 0;
        return had;
    }

    public int judge() {
        return book.firstWrong(now.latest);
    }

    // ---- draws, images

    public int seed(int v) {
        if (v < 0) {
            return OUTSIDE;
        }
        int was = seedNow;
        seedNow = v;
        return was;
    }

    public int keep(int i) {
        World image = image(i);
        if (image == null) {
            return UNKNOWN;
        }
        image.copyFrom(now);
        put(imageSeeds, i, seedNow);
        imagesKept |= 1 << i;
        past.count = 0;
        return 1;
    }

    public int goBack(int i) {
        World image = image(i);
        if (image == null) {
            return UNKNOWN;
        }
        if (!holds(imagesKept, i)) {
            return NOT;
        }
        now.copyFrom(image);
        seedNow = cell(imageSeeds, i);
        past.count = 0;
        return 1;
    }

    // ---- what there is

    private boolean isFarm(int a) {
        return a >= 0 && a < land.farms;
    }

    private boolean isWord(int w) {
        return w >= 0 && w < land.words;
    }

    private boolean isTalk(int i) {
        return i >= 0 && i < now.talks;
    }

    private boolean areFarms(int set) {
        return (set & -(1 << land.farms)) == 0;
    }

    private World image(int i) {
        return i >= 0 && i < images.length ? images[i] : null;
    }

    private int hoursRefused(int n) {
        if (n < 1 || n > MOST_AT_ONCE) {
            return OUTSIDE;
        }
        if (land.farms == 0) {
            return NOT;
        }
        return now.hours > LAST_HOUR ? FULL : 0;
    }

    // ---- the way down

    private int downOf(int a) {
        int set = 0;
        int at = a;
        for (int step = 0; step < MOST_FARMS && at != ESTUARY; step++) {
            int to = cell(land.next, at);
            set |= 1 << to;
            at = now.goesOnFrom(to);
        }
        return set;
    }

    private int upOf(int b) {
        int set = 0;
        for (int a = 0; a < land.farms; a++) {
            if (holds(downOf(a), b)) {
                set |= 1 << a;
            }
        }
        return set;
    }

    private int wordAt(int a, int b, int w) {
        int word = w;
        int at = a;
        for (int step = 0; step < MOST_FARMS && at != ESTUARY; step++) {
            int to = cell(land.next, at);
            word = now.garbled(land, at, word);
            if (to == b) {
                return word;
            }
            at = now.goesOnFrom(to);
        }
        return NONE;
    }

    private int hoursTo(int a, int b) {
        int flow = now.flow;
        if (flow < 1) {
            return NONE;
        }
        int hours = 0;
        int at = a;
        for (int step = 0; step < MOST_FARMS && at != ESTUARY; step++) {
            int to = cell(land.next, at);
            hours += (land.toGoFrom(at) + flow - 1) / flow;
            if (to == b) {
                return hours;
            }
            at = now.goesOnFrom(to);
        }
        return NONE;
    }

    private int wordsFor(int a, int b, int v) {
        int set = 0;
        for (int w = 0; w < land.words; w++) {
            if (wordAt(a, b, w) == v) {
                set |= 1 << w;
            }
        }
        return set;
    }

    // A talk has one way down, so one dam is enough; farms get less on it, so the last that may be
    // dammed ahead of the first listener is the least.
    private int fewestDams(int a, int set) {
        int dam = NONE;
        int at = a;
        for (int step = 0; step < MOST_FARMS && at != ESTUARY; step++) {
            int to = cell(land.next, at);
            if (holds(set, to)) {
                return dam;
            }
            dam = 1 << to;
            at = now.goesOnFrom(to);
        }
        return 0;
    }

    // ---- who stands out

    private int loudest() {
        int most = 0;
        int who = NONE;
        for (int a = 0; a < land.farms; a++) {
            int heard = cell(now.heard, a);
            if (heard > most) {
                most = heard;
                who = a;
            }
        }
        return who;
    }

    private int bottom() {
        int most = NONE;
        int who = NONE;
        for (int a = 1; a < land.farms; a++) {
            int above = Integer.bitCount(upOf(a));
            if (above > most) {
                most = above;
                who = a;
            }
        }
        return who;
    }

    private int even() {
        int set = 0;
        for (int a = 0; a < land.farms; a++) {
            if (leavesAllAlone(a)) {
                set |= 1 << a;
            }
        }
        return set;
    }

    private boolean leavesAllAlone(int a) {
        for (int w = 0; w < land.words; w++) {
            if (wordAt(a, ESTUARY, w) != w) {
                return false;
            }
        }
        return true;
    }

    private int longest() {
        int most = NONE;
        int who = NONE;
        for (int a = 0; a < land.farms; a++) {
            int hours = hoursTo(a, ESTUARY);
            if (hours > most) {
                most = hours;
                who = a;
            }
        }
        return who;
    }

    // ---- draws

    private int draw(int n) {
        seedNow = (int) (seedNow * 1103515245L + 12345L & 2147483647L);
        return n > 0 ? seedNow / 65536 % n : 0;
    }

    private void befall() {
        switch (draw(5)) {
            case 0:
                now.flow = draw(MOST_FLOW + 1);
                break;
            case 1:
                befallTalk();
                break;
            case 2:
                now.frost = !now.frost;
                break;
            default:
                break;
        }
    }

    private void befallTalk() {
        if (land.farms < 2) {
            return;
        }
        int a = draw(land.farms - 1) + 1;
        int w = draw(land.words);
        if (now.talks < MOST_TALKS) {
            now.enterTalk(land, a, w);
        }
    }

    // ---- rows, sets, words

    // All rows are read and written by these two, so that no index can be out of its row.
    private static int cell(int[] row, int i) {
        return i >= 0 && i < row.length ? row[i] : 0;
    }

    private static void put(int[] row, int i, int value) {
        if (i >= 0 && i < row.length) {
            row[i] = value;
        }
    }

    private static boolean holds(int set, int k) {
        return (set >> k & 1) != 0;
    }

    private static int garbledOnce(int sort, int key, int words, int w) {
        switch (sort) {
            case 1: return words > 0 ? (w + key) % words : w;
            case 2: return w > key ? key : w;
            case 3: return words - 1 - w;
            case 4: return w < key ? key : w;
            default: return w;
        }
    }

    /** What the text told (section 1). Without a dale it has no farms and no words. */
    private static final class Dale {
        int words;
        int flow;
        int farms;
        final int[] next = new int[MOST_FARMS];
        final int[] far = new int[MOST_FARMS];
        final int[] sort = new int[MOST_FARMS];
        final int[] key = new int[MOST_FARMS];

        void clear() {
            words = 0;
            flow = 0;
            farms = 0;
        }

        void copyFrom(Dale other) {
            words = other.words;
            flow = other.flow;
            farms = other.farms;
            System.arraycopy(other.next, 0, next, 0, MOST_FARMS);
            System.arraycopy(other.far, 0, far, 0, MOST_FARMS);
            System.arraycopy(other.sort, 0, sort, 0, MOST_FARMS);
            System.arraycopy(other.key, 0, key, 0, MOST_FARMS);
        }

        void addFarm(int to, int distance, int fallSort, int fallKey) {
            put(next, farms, to);
            put(far, farms, distance);
            put(sort, farms, fallSort);
            put(key, farms, fallKey);
            farms++;
        }

        int toGoFrom(int a) {
            return STEPS_A_LENGTH * cell(far, a);
        }
    }

    /** The text and its reading: up to its end, or to the first fault. */
    private static final class Reader {
        final int[] text = new int[MOST_LETTERS];
        int length;
        int at;
        int fault;
        int faultAt = NONE;

        void readInto(Dale dale) {
            dale.clear();
            at = 0;
            fault = 0;
            faultAt = NONE;
            skipBlanks();
            for (int clause = 0; clause < MOST_LETTERS && at < length && fault == 0; clause++) {
                readClause(dale);
                skipBlanks();
            }
        }

        private void readClause(Dale dale) {
            int word = cell(text, at);
            boolean first = dale.farms == 0;
            if (word == 'b' && first) {
                at++;
                readBecks(dale);
            } else if (word == 'b' || word == 'f' && dale.farms >= MOST_FARMS) {
                mark(3, at);
            } else if (word == 'f' && !first) {
                at++;
                readFarm(dale);
            } else {
                mark(1, at);
            }
        }

        private void readBecks(Dale dale) {
            int words = readNumber(2, MOST_WORDS);
            int flow = readNumber(0, MOST_FLOW);
            readEnd();
            if (fault == 0) {
                dale.words = words;
                dale.flow = flow;
                dale.addFarm(0, 0, 0, 0);
            }
        }

        private void readFarm(Dale dale) {
            int to = readNumber(0, dale.farms - 1);
            int distance = readNumber(1, 9);
            int fallSort = readNumber(0, 4);
            int fallKey = readNumber(0, dale.words - 1);
            readEnd();
            if (fault == 0) {
                dale.addFarm(to, distance, fallSort, fallKey);
            }
        }

        private int readNumber(int least, int most) {
            skipBlanks();
            int start = at;
            int value = 0;
            for (int i = start; i < length && isFigure(cell(text, i)); i++) {
                // Past three figures the value is of no use, and must not run over.
                value = at - start < 3 ? 10 * value + cell(text, i) - '0' : value;
                at++;
            }
            if (at == start) {
                mark(1, start);
            } else if (at - start > 3 || value < least || value > most) {
                mark(2, start);
            }
            return value;
        }

        private void readEnd() {
            skipBlanks();
            if (at < length && cell(text, at) == ';') {
                at++;
            } else {
                mark(1, at);
            }
        }

        private void skipBlanks() {
            for (int i = at; i < length && cell(text, i) == ' '; i++) {
                at++;
            }
        }

        private static boolean isFigure(int letter) {
            return letter >= '0' && letter <= '9';
        }

        // The reading goes on to its clause's end; only the first fault counts.
        private void mark(int number, int place) {
            if (fault == 0) {
                fault = number;
                faultAt = place;
            }
        }
    }

    /** All that section 2 tells, at one time. */
    private static final class World {
        int hours;
        int flow;
        boolean frost;
        int dammed;
        int contradicted;
        int talks;
        int logCount;
        int logEnd;
        final int[] talkCells = new int[CELLS * MOST_TALKS];
        final int[] logCells = new int[CELLS * MOST_LOGGED];
        final int[] sort = new int[MOST_FARMS];
        final int[] latest = new int[MOST_FARMS];
        final int[] heard = new int[MOST_FARMS];

        void begin(Dale dale) {
            hours = 0;
            flow = dale.flow;
            frost = false;
            dammed = 0;
            contradicted = 0;
            talks = 0;
            logCount = 0;
            logEnd = 0;
            System.arraycopy(dale.sort, 0, sort, 0, MOST_FARMS);
            Arrays.fill(latest, NONE);
            Arrays.fill(heard, 0);
        }

        void copyFrom(World other) {
            hours = other.hours;
            flow = other.flow;
            frost = other.frost;
            dammed = other.dammed;
            contradicted = other.contradicted;
            talks = other.talks;
            logCount = other.logCount;
            logEnd = other.logEnd;
            System.arraycopy(other.talkCells, 0, talkCells, 0, CELLS * MOST_TALKS);
            System.arraycopy(other.logCells, 0, logCells, 0, CELLS * MOST_LOGGED);
            System.arraycopy(other.sort, 0, sort, 0, MOST_FARMS);
            System.arraycopy(other.latest, 0, latest, 0, MOST_FARMS);
            System.arraycopy(other.heard, 0, heard, 0, MOST_FARMS);
        }

        int ofTalk(int i, int what) {
            return cell(talkCells, CELLS * i + what);
        }

        // The log goes round in its row; the entry ahead of logEnd is the latest, number 0.
        int ofLog(int i, int what) {
            int slot = (logEnd - 1 - i + 2 * MOST_LOGGED) % MOST_LOGGED;
            return cell(logCells, CELLS * slot + what);
        }

        void enterTalk(Dale dale, int a, int w) {
            placeTalk(talks, w, a, dale.toGoFrom(a), a);
            talks++;
        }

        void endTalk(int i) {
            for (int k = i + 1; k < talks; k++) {
                moveTalk(k, k - 1);
            }
            talks--;
        }

        void leaveOnly(int i) {
            moveTalk(i, 0);
            talks = 1;
        }

        void passHours(Dale dale, int n) {
            for (int h = 0; h < n; h++) {
                pass(dale);
            }
        }

        void pass(Dale dale) {
            if (!frost && flow >= 1) {
                carryAll(dale);
            }
            if (hours % 6 == 5 && flow > 0) {
                flow--;
            }
            hours++;
        }

        // Whoever hears twice in an hour is compared with what it heard just before: unlike words
        // among several stand side by side at least once.
        private void carryAll(Dale dale) {
            int hearers = 0;
            int contradictions = 0;
            int going = 0;
            for (int i = 0; i < talks; i++) {
                int from = ofTalk(i, TALK_FROM);
                int said = ofTalk(i, TALK_SAID);
                int word = ofTalk(i, TALK_WORD);
                int toGo = ofTalk(i, TALK_TO_GO) - flow;
                if (toGo <= 0) {
                    int to = cell(dale.next, from);
                    word = garbled(dale, from, word);
                    if (holds(hearers, to) && cell(latest, to) != word) {
                        contradictions |= 1 << to;
                    }
                    hearers |= 1 << to;
                    hears(to, word, said);
                    from = goesOnFrom(to);
                    toGo = dale.toGoFrom(from);
                }
                if (from != ESTUARY) {
                    placeTalk(going, word, from, toGo, said);
                    going++;
                }
            }
            talks = going;
            contradicted = Math.min(MOST_COUNTED, contradicted + Integer.bitCount(contradictions));
        }

        // The farm itself where talk that came there goes on; the estuary where it is over.
        int goesOnFrom(int to) {
            return holds(dammed, to) ? ESTUARY : to;
        }

        int garbled(Dale dale, int from, int w) {
            int fallSort = cell(sort, from);
            int fallKey = cell(dale.key, from);
            int once = garbledOnce(fallSort, fallKey, dale.words, w);
            return flow >= SHOUTING_FLOW ? garbledOnce(fallSort, fallKey, dale.words, once) : once;
        }

        private void hears(int who, int word, int said) {
            put(latest, who, word);
            put(heard, who, Math.min(MOST_COUNTED, cell(heard, who) + 1));
            int first = CELLS * logEnd;
            put(logCells, first + LOG_WHO, who);
            put(logCells, first + LOG_WORD, word);
            put(logCells, first + LOG_HOUR, hours);
            put(logCells, first + LOG_SAID, said);
            logEnd = (logEnd + 1) % MOST_LOGGED;
            logCount = Math.min(MOST_LOGGED, logCount + 1);
        }

        private void placeTalk(int i, int word, int from, int toGo, int said) {
            int first = CELLS * i;
            put(talkCells, first + TALK_WORD, word);
            put(talkCells, first + TALK_FROM, from);
            put(talkCells, first + TALK_TO_GO, toGo);
            put(talkCells, first + TALK_SAID, said);
        }

        private void moveTalk(int i, int to) {
            placeTalk(to, ofTalk(i, TALK_WORD), ofTalk(i, TALK_FROM), ofTalk(i, TALK_TO_GO), ofTalk(i, TALK_SAID));
        }
    }

    /** What can be undone: the latest worlds, going round in a row. */
    private static final class Past {
        final World[] worlds = new World[MOST_UNDONE];
        int end;
        int count;

        Past() {
            for (int i = 0; i < worlds.length; i++) {
                worlds[i] = new World();
            }
        }

        void remember(World now) {
            World slot = world(end);
            if (slot != null) {
                slot.copyFrom(now);
                end = (end + 1) % MOST_UNDONE;
                count = Math.min(MOST_UNDONE, count + 1);
            }
        }

        void bringBack(World now) {
            int latest = (end + MOST_UNDONE - 1) % MOST_UNDONE;
            World slot = world(latest);
            if (slot != null && count > 0) {
                now.copyFrom(slot);
                end = latest;
                count--;
            }
        }

        private World world(int i) {
            return i >= 0 && i < worlds.length ? worlds[i] : null;
        }
    }

    /** What an unknown fall was seen to do, and which falls do so. */
    private static final class Guess {
        final int[] before = new int[MOST_SEEN];
        final int[] after = new int[MOST_SEEN];
        final int[] parts = new int[MOST_WORDS];
        int count;

        void add(int w, int v) {
            put(before, count, w);
            put(after, count, v);
            count++;
        }

        int howMany(int words) {
            int many = 0;
            for (int fall = 0; fall < MOST_FALLS; fall++) {
                if (fits(fall, words)) {
                    many++;
                }
            }
            return many;
        }

        int first(int words) {
            for (int fall = 0; fall < MOST_FALLS; fall++) {
                if (fits(fall, words)) {
                    return fall;
                }
            }
            return NONE;
        }

        int bestWord(int words) {
            int least = howMany(words);
            int best = NONE;
            for (int w = 0; w < words; w++) {
                int part = greatestPart(w, words);
                if (part < least) {
                    least = part;
                    best = w;
                }
            }
            return best;
        }

        private int greatestPart(int w, int words) {
            Arrays.fill(parts, 0);
            int greatest = 0;
            for (int fall = 0; fall < MOST_FALLS; fall++) {
                if (fits(fall, words)) {
                    int v = garbledOnce(fall / 10, fall % 10, words, w);
                    put(parts, v, cell(parts, v) + 1);
                    greatest = Math.max(greatest, cell(parts, v));
                }
            }
            return greatest;
        }

        private boolean fits(int fall, int words) {
            int sort = fall / 10;
            int key = fall % 10;
            if (!isListed(sort, key, words)) {
                return false;
            }
            for (int i = 0; i < count; i++) {
                if (garbledOnce(sort, key, words, cell(before, i)) != cell(after, i)) {
                    return false;
                }
            }
            return true;
        }

        // Falls that do nothing are listed once, as 0; each other way to garble has one number too.
        private static boolean isListed(int sort, int key, int words) {
            switch (sort) {
                case 1:
                case 4:
                    return key >= 1 && key < words;
                case 2:
                    return key < words - 1;
                default:
                    return key == 0 && words > 0;
            }
        }
    }

    /** What farms are said to have heard latest. */
    private static final class Book {
        final int[] farms = new int[MOST_WRITTEN];
        final int[] words = new int[MOST_WRITTEN];
        int count;

        void add(int a, int w) {
            put(farms, count, a);
            put(words, count, w);
            count++;
        }

        int firstWrong(int[] latest) {
            for (int i = 0; i < count; i++) {
                if (cell(latest, cell(farms, i)) != cell(words, i)) {
                    return i;
                }
            }
            return NONE;
        }
    }
}
