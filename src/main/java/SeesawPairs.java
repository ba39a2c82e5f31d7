/** Bridges that are seesaws: one crosses only as another comes from the other end. */
public final class SeesawPairs {
    public static final int BAD = -1, STATE = -2, FULL = -3, NONE = -4;

    private static final int BANKS_MOST = 4, BRIDGES_MOST = 4, PEOPLE_MOST = 6;
    private static final int STONES_MOST = 20, PLAY_MOST = 20, WEIGHT_MOST = 99, FEAST_MOST = 9;
    private static final int LOAD_MOST = 3, CROSSINGS_MOST = 999, DAY_MOST = 8;
    private static final int TAPE_MOST = 320, FED = 8, IMAGES = 2;
    private static final int SHEETS = 4, LANES = 3, CELLS_MOST = 40, READ_MOST = 13;
    private static final int FITS_MOST = 4, TRIES_MOST = 100;
    private static final int PLAIN = 0, EXILE = 1, CARRIER = 2, CHILD = 3, STOUT = 4;
    private static final int NULL_FAULT = 1, INDEX_FAULT = 2, CAST_FAULT = 3, SIZE_FAULT = 4;

    private final Gorge now = new Gorge();
    private final Gorge trial = new Gorge();
    private final Gorge[] images = {new Gorge(), new Gorge()};
    private final boolean[] kept = new boolean[IMAGES];
    private final Day day = new Day();
    private final Reader reader = new Reader();
    private final Match match = new Match();
    private final Paths paths = new Paths();
    private final Sheets sheets = new Sheets();
    private int textFault;
    private int readFault;

    public SeesawPairs() {
    }

    // ---- the text, what there is

    public int feed(long v) {
        Tape tape = reader.tape;
        if (tape.size > TAPE_MOST - FED) return FULL;
        for (int shift = 56; shift >= 0; shift -= 8) tape.append((int) (v >>> shift) & 255);
        return tape.size;
    }

    public int end(int n) {
        Tape tape = reader.tape;
        if (!within(n, 0, tape.size)) return BAD;
        int had = tape.size;
        tape.size = n;
        return had;
    }

    public int text() {
        int lines = reader.takeText();
        reader.tape.size = 0;
        textFault = reader.fault;
        if (textFault != 0) return -10 - reader.faultPlace;
        now.copyFrom(reader.draft);
        day.copyFrom(reader.meets);
        for (int k = 0; k < kept.length; k++) kept[k] = false;
        return lines;
    }

    public int fault() {
        return textFault;
    }

    public int rule(int what) {
        switch (what) {
            case 0: return now.banks;
            case 1: return now.bridges;
            case 2: return now.people;
            case 3: return now.stoneWeight;
            case 4: return now.crossings;
            default: return BAD;
        }
    }

    public int bridge(int b, int what) {
        if (!now.hasBridge(b)) return BAD;
        switch (what) {
            case 0: return now.firstBank(b);
            case 1: return now.secondBank(b);
            case 2: return now.playOf(b);
            default: return BAD;
        }
    }

    public int one(int p, int what) {
        if (!now.hasOne(p)) return BAD;
        switch (what) {
            case 0: return now.kindOf(p);
            case 1: return now.weightOf(p);
            case 2: return now.bankOf(p);
            case 3: return now.goalOf(p);
            default: return BAD;
        }
    }

    public int stones(int bank) {
        return now.hasBank(bank) ? now.stonesOn(bank) : BAD;
    }

    // ---- what is changed

    public int heap(int bank, int v) {
        if (!now.hasBank(bank) || !within(v, 0, STONES_MOST)) return BAD;
        int was = now.stonesOn(bank);
        now.setStones(bank, v);
        return was;
    }

    public int play(int b, int v) {
        if (!now.hasBridge(b) || !within(v, 0, PLAY_MOST)) return BAD;
        int was = now.playOf(b);
        put(now.plays, b, v);
        return was;
    }

    public int weigh(int p, int v) {
        if (!now.hasOne(p) || !within(v, 1, WEIGHT_MOST)) return BAD;
        int was = now.weightOf(p);
        put(now.weights, p, v);
        return was;
    }

    public int send(int p, int bank, int goal) {
        if (!now.hasOne(p) || !now.hasBank(bank) || !now.hasBank(goal)) return BAD;
        int was = now.bankOf(p);
        put(now.stands, p, bank);
        put(now.goals, p, goal);
        return was;
    }

    public int feast(int bank, int v) {
        if (!now.hasBank(bank) || !within(v, -FEAST_MOST, FEAST_MOST)) return BAD;
        int there = 0;
        for (int p = 0; p < now.people; p++) {
            if (now.bankOf(p) != bank) continue;
            there++;
            int heavier = now.weightOf(p) + v;
            put(now.weights, p, Math.max(1, Math.min(WEIGHT_MOST, heavier)));
        }
        return there;
    }

    // ---- pairs

    public int can(int b, int p, int q, int i, int j) {
        if (!now.isAsked(b, p, q, i, j)) return BAD;
        return now.passes(b, p, q, i, j) ? 1 : 0;
    }

    public int cross(int b, int p, int q, int i, int j) {
        return now.tryCrossing(b, p, q, i, j);
    }

    public int balance(int b, int p, int q, int what) {
        if (!now.isAsked(b, p, q, 0, 0) || !within(what, 0, 2)) return BAD;
        if (!now.isPair(b, p, q) || now.isExileAgainst(b, p, q)) return STATE;
        int load = now.lightestLoad(b, p, q);
        if (load < 0) return NONE;
        int ofFirst = load / 10;
        int ofSecond = load % 10;
        if (what == 0) return ofFirst + ofSecond;
        return what == 1 ? ofFirst : ofSecond;
    }

    public int fellows(int b, int p) {
        if (!now.hasBridge(b) || !now.hasOne(p)) return BAD;
        boolean onFirst = now.bankOf(p) == now.firstBank(b);
        if (!onFirst && now.bankOf(p) != now.secondBank(b)) return STATE;
        int bits = 0;
        for (int x = 0; x < now.people; x++) {
            boolean passes = onFirst ? now.passes(b, p, x, 0, 0) : now.passes(b, x, p, 0, 0);
            if (passes) bits |= 1 << x;
        }
        return bits;
    }

    // ---- errands

    public int errands(int b, int what) {
        if (!now.hasBridge(b) || what != 0 && !asksOne(what)) return BAD;
        match.gather(now, b, false);
        match.solve();
        return what == 0 ? match.pairs : match.fellowOf(what - 10);
    }

    public int heaved(int b, int what) {
        if (!now.hasBridge(b) || !within(what, 0, 1) && !asksOne(what)) return BAD;
        match.gather(now, b, true);
        match.solve();
        if (what == 0) return match.pairs;
        return what == 1 ? match.stones : match.fellowOf(what - 10);
    }

    public int worth(int b, int p) {
        if (!now.hasBridge(b) || !now.hasOne(p)) return BAD;
        match.gather(now, b, false);
        match.solve();
        int withHim = match.pairs;
        match.leaveOut(p);
        match.solve();
        return withHim - match.pairs;
    }

    public int hire(int b, int side, int what) {
        if (!now.hasBridge(b) || !within(side, 0, 1) || !within(what, 0, 1)) return BAD;
        match.gather(now, b, false);
        int most = -1;
        int least = 0;
        int before = -1;
        for (int w = 1; w <= WEIGHT_MOST; w++) {
            int bits = now.fellowsOfNew(b, side, w);
            // neighbouring weights mostly have the same fellows, so the same pairs
            if (bits == before) continue;
            before = bits;
            match.seatNew(side, bits);
            match.solve();
            if (match.pairs > most) {
                most = match.pairs;
                least = w;
            }
        }
        return what == 0 ? least : most;
    }

    private boolean asksOne(int what) {
        return what >= 10 && now.hasOne(what - 10);
    }

    // ---- plans

    public int plan(int what) {
        if (what != 0 && what < 10) return BAD;
        paths.survey(now, now.standing());
        int goal = paths.indexOf(now.wished());
        if (goal < 0) return NONE;
        int length = paths.depthOf(goal);
        if (what == 0) return length;
        return what - 10 < length ? paths.stepTo(goal, what - 10) : NONE;
    }

    public int reach(int p) {
        if (!now.hasOne(p)) return BAD;
        paths.survey(now, now.standing());
        return paths.banksOf(p);
    }

    public int ways() {
        paths.survey(now, now.standing());
        return paths.size;
    }

    // ---- told days

    public int tell(int b, int p, int q) {
        if (!now.isAsked(b, p, q, 0, 0)) return BAD;
        if (day.size >= DAY_MOST) return FULL;
        day.append(b, p, q);
        return day.size;
    }

    public int forget(int n) {
        if (!within(n, 0, day.size)) return BAD;
        int had = day.size;
        day.size = n;
        return had;
    }

    public int judge() {
        trial.copyFrom(now);
        for (int i = 0; i < day.size; i++) {
            if (!trial.passesAndGoes(day.bridgeAt(i), day.aheadAt(i), day.otherAt(i))) return i;
        }
        return NONE;
    }

    public int late(int p) {
        if (!now.hasOne(p)) return BAD;
        trial.copyFrom(now);
        int crossed = 0;
        for (int i = 0; i < day.size; i++) {
            if (day.aheadAt(i) == p || day.otherAt(i) == p) continue;
            if (trial.passesAndGoes(day.bridgeAt(i), day.aheadAt(i), day.otherAt(i))) crossed++;
        }
        return crossed;
    }

    // ---- from an image to now

    public int fits(int k, int n, int what) {
        if (!within(k, 0, IMAGES - 1) || !within(n, 0, FITS_MOST)) return BAD;
        if (what != 0 && (what < 10 || what - 10 >= n)) return BAD;
        Gorge image = imageAt(k);
        if (image == null) return STATE;
        paths.survey(now, image.standing());
        paths.countRows(now.standing(), n);
        if (what == 0) return paths.rowsFrom(0, n);
        return paths.stepOfFirstRow(n, what - 10);
    }

    // ---- seasons

    public int season(int seed, int n, int what) {
        if (!within(n, 1, TRIES_MOST) || !within(what, 0, 1)) return BAD;
        if (now.bridges <= 0 || now.people <= 0) return STATE;
        trial.copyFrom(now);
        int made = 0;
        int s = seed;
        for (int t = 0; t < n; t++) {
            s = nextSeed(s);
            int b = drawn(s, now.bridges);
            s = nextSeed(s);
            int p = drawn(s, now.people);
            s = nextSeed(s);
            int q = drawn(s, now.people);
            if (trial.passesAndGoes(b, p, q)) made++;
        }
        return what == 0 ? made : trial.atGoals();
    }

    private static int nextSeed(int s) {
        return s * 1103515245 + 12345;
    }

    private static int drawn(int s, int among) {
        return among > 0 ? (s >>> 16 & 0x7fff) % among : 0;
    }

    // ---- images, sheets

    public int keep(int k) {
        if (!within(k, 0, IMAGES - 1)) return BAD;
        int was = isKept(k) ? 1 : 0;
        if (k < images.length && images[k] != null && k < kept.length) {
            images[k].copyFrom(now);
            kept[k] = true;
        }
        return was;
    }

    public int back(int k) {
        if (!within(k, 0, IMAGES - 1)) return BAD;
        Gorge image = imageAt(k);
        if (image == null) return STATE;
        now.copyFrom(image);
        return now.crossings;
    }

    public int sheet(int k, int lane, int n) {
        if (!within(k, 0, SHEETS - 1) || !within(lane, 0, LANES - 1) || n > CELLS_MOST) return BAD;
        if (n < 0) return -10 - SIZE_FAULT;
        sheets.renew(k, lane, n);
        return 1;
    }

    public int lay(int k, int i, int v) {
        if (!within(k, 0, SHEETS - 1)) return BAD;
        int found = sheets.faultAt(k, sheets.laneOf(k), i, 1);
        if (found != 0) return -10 - found;
        sheets.setCell(k, i, v);
        return 1;
    }

    public int read(int k, int lane, int f, int n) {
        if (!within(k, 0, SHEETS - 1) || !within(lane, 0, LANES - 1)) return BAD;
        if (!within(n, 0, READ_MOST)) return BAD;
        trial.copyFrom(now);
        int found = 0;
        int crossed = 0;
        for (int i = 0; i < n; i++) {
            int from = f + 3 * i;
            found = sheets.faultAt(k, lane, from, 3);
            if (found != 0) break;
            int b = sheets.cellAt(k, from);
            int p = sheets.cellAt(k, from + 1);
            int q = sheets.cellAt(k, from + 2);
            if (trial.tryCrossing(b, p, q, 0, 0) < 0) return -20 - i;
            crossed++;
        }
        now.copyFrom(trial);
        readFault = found;
        return crossed;
    }

    public int torn() {
        return readFault;
    }

    public int count(int what) {
        switch (what) {
            case 0: return now.atGoals();
            case 1: return day.size;
            case 2: return (isKept(0) ? 1 : 0) + (isKept(1) ? 1 : 0);
            case 3: return reader.tape.size;
            case 4: return sheets.laneOf(0) < 0 ? NONE : sheets.sizeOf(0);
            case 5: return now.allStones();
            default: return BAD;
        }
    }

    private boolean isKept(int k) {
        return k >= 0 && k < kept.length && kept[k];
    }

    /** Null where there is no such image. */
    private Gorge imageAt(int k) {
        return isKept(k) && k < images.length ? images[k] : null;
    }

    // ---- rows that are looked at before they are used

    private static boolean within(int v, int least, int most) {
        return v >= least && v <= most;
    }

    private static int at(int[] row, int i) {
        return i >= 0 && i < row.length ? row[i] : 0;
    }

    private static void put(int[] row, int i, int v) {
        if (i >= 0 && i < row.length) row[i] = v;
    }

    private static void copyRow(int[] from, int[] to) {
        System.arraycopy(from, 0, to, 0, Math.min(from.length, to.length));
    }

    /** What there is: banks, bridges, people; an image and a trial are such ones too. */
    private static final class Gorge {
        private int banks = 2;
        private int bridges;
        private int people;
        private int stoneWeight = 3;
        private int crossings;
        private final int[] heaps = new int[BANKS_MOST];
        private final int[] firsts = new int[BRIDGES_MOST];
        private final int[] seconds = new int[BRIDGES_MOST];
        private final int[] plays = new int[BRIDGES_MOST];
        private final int[] kinds = new int[PEOPLE_MOST];
        private final int[] weights = new int[PEOPLE_MOST];
        private final int[] stands = new int[PEOPLE_MOST];
        private final int[] goals = new int[PEOPLE_MOST];

        void clear() {
            banks = 2;
            bridges = 0;
            people = 0;
            stoneWeight = 3;
            crossings = 0;
            for (int i = 0; i < BANKS_MOST; i++) put(heaps, i, 0);
        }

        void copyFrom(Gorge other) {
            banks = other.banks;
            bridges = other.bridges;
            people = other.people;
            stoneWeight = other.stoneWeight;
            crossings = other.crossings;
            copyRow(other.heaps, heaps);
            copyRow(other.firsts, firsts);
            copyRow(other.seconds, seconds);
            copyRow(other.plays, plays);
            copyRow(other.kinds, kinds);
            copyRow(other.weights, weights);
            copyRow(other.stands, stands);
            copyRow(other.goals, goals);
        }

        void addBridge(int first, int second, int play) {
            if (bridges >= BRIDGES_MOST) return;
            put(firsts, bridges, first);
            put(seconds, bridges, second);
            put(plays, bridges, play);
            bridges++;
        }

        void addOne(int kind, int weight, int bank, int goal) {
            if (people >= PEOPLE_MOST) return;
            put(kinds, people, kind);
            put(weights, people, weight);
            put(stands, people, bank);
            put(goals, people, goal);
            people++;
        }

        void setStones(int bank, int v) {
            put(heaps, bank, v);
        }

        boolean hasBank(int bank) {
            return bank >= 0 && bank < banks;
        }

        boolean hasBridge(int b) {
            return b >= 0 && b < bridges;
        }

        boolean hasOne(int p) {
            return p >= 0 && p < people;
        }

        int firstBank(int b) {
            return at(firsts, b);
        }

        int secondBank(int b) {
            return at(seconds, b);
        }

        int playOf(int b) {
            return at(plays, b);
        }

        int kindOf(int p) {
            return at(kinds, p);
        }

        int weightOf(int p) {
            return at(weights, p);
        }

        int bankOf(int p) {
            return at(stands, p);
        }

        int goalOf(int p) {
            return at(goals, p);
        }

        int stonesOn(int bank) {
            return at(heaps, bank);
        }

        int allStones() {
            int all = 0;
            for (int bank = 0; bank < banks; bank++) all += stonesOn(bank);
            return all;
        }

        int atGoals() {
            int there = 0;
            for (int p = 0; p < people; p++) if (bankOf(p) == goalOf(p)) there++;
            return there;
        }

        /** Where all stand, as one number: two bits each. */
        int standing() {
            int code = 0;
            for (int p = 0; p < people; p++) code |= bankOf(p) << 2 * p;
            return code;
        }

        int wished() {
            int code = 0;
            for (int p = 0; p < people; p++) code |= goalOf(p) << 2 * p;
            return code;
        }

        boolean isAsked(int b, int p, int q, int i, int j) {
            return hasBridge(b) && hasOne(p) && hasOne(q) && p != q
                && within(i, 0, LOAD_MOST) && within(j, 0, LOAD_MOST);
        }

        boolean isPair(int b, int p, int q) {
            return p != q && bankOf(p) == firstBank(b) && bankOf(q) == secondBank(b);
        }

        boolean isExileAgainst(int b, int p, int q) {
            return kindOf(p) == EXILE && secondBank(b) == 0 || kindOf(q) == EXILE && firstBank(b) == 0;
        }

        int carries(int p) {
            return kindOf(p) == CARRIER ? LOAD_MOST : 1;
        }

        int playFor(int b, int kind, int otherKind) {
            if (kind == CHILD || otherKind == CHILD) return playOf(b) / 2;
            if (kind == STOUT || otherKind == STOUT) return playOf(b) * 2;
            return playOf(b);
        }

        boolean isLevel(int b, int p, int q, int i, int j) {
            int end = weightOf(p) + i * stoneWeight;
            int otherEnd = weightOf(q) + j * stoneWeight;
            return Math.abs(end - otherEnd) <= playFor(b, kindOf(p), kindOf(q));
        }

        boolean carriesSo(int p, int i) {
            return i <= carries(p) && i <= stonesOn(bankOf(p));
        }

        boolean passes(int b, int p, int q, int i, int j) {
            return isPair(b, p, q) && carriesSo(p, i) && carriesSo(q, j)
                && !isExileAgainst(b, p, q) && isLevel(b, p, q, i, j);
        }

        void go(int b, int p, int q, int i, int j) {
            int first = firstBank(b);
            int second = secondBank(b);
            put(stands, p, second);
            put(stands, q, first);
            setStones(first, stonesOn(first) - i + j);
            setStones(second, stonesOn(second) - j + i);
            crossings++;
        }

        boolean passesAndGoes(int b, int p, int q) {
            if (!passes(b, p, q, 0, 0)) return false;
            go(b, p, q, 0, 0);
            return true;
        }

        int tryCrossing(int b, int p, int q, int i, int j) {
            if (!isAsked(b, p, q, i, j)) return BAD;
            if (!passes(b, p, q, i, j)) return NONE;
            if (crossings >= CROSSINGS_MOST) return FULL;
            if (stonesOn(firstBank(b)) - i + j > STONES_MOST) return FULL;
            if (stonesOn(secondBank(b)) - j + i > STONES_MOST) return FULL;
            go(b, p, q, i, j);
            return crossings;
        }

        /** Ten times the stones of p, and those of q; -1 where none balance them. */
        int lightestLoad(int b, int p, int q) {
            for (int all = 0; all <= 2 * LOAD_MOST; all++) {
                for (int i = 0; i <= all; i++) {
                    int j = all - i;
                    if (i > carries(p) || j > carries(q)) continue;
                    if (isLevel(b, p, q, i, j)) return 10 * i + j;
                }
            }
            return -1;
        }

        /** The stones by which p and q run their errands together; -1 where they can not. */
        int errandStones(int b, int p, int q, boolean heaving) {
            if (!hasOne(p) || !hasOne(q) || !isPair(b, p, q)) return -1;
            if (goalOf(p) != secondBank(b) || goalOf(q) != firstBank(b)) return -1;
            if (isExileAgainst(b, p, q)) return -1;
            if (!heaving) return isLevel(b, p, q, 0, 0) ? 0 : -1;
            int load = lightestLoad(b, p, q);
            return load < 0 ? -1 : load / 10 + load % 10;
        }

        /** With whom a new plain one of that weight, from that side, could run his errand. */
        int fellowsOfNew(int b, int side, int weight) {
            int from = side == 0 ? firstBank(b) : secondBank(b);
            int to = side == 0 ? secondBank(b) : firstBank(b);
            int bits = 0;
            for (int x = 0; x < people; x++) {
                if (bankOf(x) != to || goalOf(x) != from) continue;
                if (kindOf(x) == EXILE && from == 0) continue;
                int differ = Math.abs(weight - weightOf(x));
                if (differ <= playFor(b, PLAIN, kindOf(x))) bits |= 1 << x;
            }
            return bits;
        }
    }

    /** The told pairs, one behind another. */
    private static final class Day {
        private final int[] pairs = new int[3 * DAY_MOST];
        private int size;

        void append(int b, int p, int q) {
            if (size >= DAY_MOST) return;
            put(pairs, 3 * size, b);
            put(pairs, 3 * size + 1, p);
            put(pairs, 3 * size + 2, q);
            size++;
        }

        void copyFrom(Day other) {
            copyRow(other.pairs, pairs);
            size = other.size;
        }

        int bridgeAt(int i) {
            return at(pairs, 3 * i);
        }

        int aheadAt(int i) {
            return at(pairs, 3 * i + 1);
        }

        int otherAt(int i) {
            return at(pairs, 3 * i + 2);
        }
    }

    private static final class Tape {
        private final int[] bytes = new int[TAPE_MOST];
        private int size;

        void append(int v) {
            if (size >= TAPE_MOST) return;
            put(bytes, size, v);
            size++;
        }

        /** -1 behind the last byte. */
        int byteAt(int i) {
            return i >= 0 && i < size && i < bytes.length ? bytes[i] : -1;
        }
    }

    /** Reads a text from the tape into a draft; the first fault stays, and all behind it is skipped. */
    private static final class Reader {
        private static final int NAME = 1, NUMBER = 2, SEMICOLON = 3, END = 4;

        private final Tape tape = new Tape();
        private final Gorge draft = new Gorge();
        private final Day meets = new Day();
        private int next;
        private int sort;
        private int start;
        private int fault;
        private int faultPlace;
        private boolean banksTold;
        private boolean stoneTold;

        /** How many lines were read; whether they are taken is told by the fault. */
        int takeText() {
            draft.clear();
            meets.size = 0;
            next = 0;
            fault = 0;
            faultPlace = 0;
            banksTold = false;
            stoneTold = false;
            int lines = 0;
            // a line has one byte at least
            for (int turn = 0; turn <= TAPE_MOST; turn++) {
                takeToken();
                if (fault != 0 || sort == END) break;
                takeLine();
                if (fault != 0) break;
                lines++;
            }
            if (fault == 0 && namesMissing()) fail(6, tape.size);
            return lines;
        }

        private void fail(int what, int place) {
            if (fault != 0) return;
            fault = what;
            faultPlace = place;
        }

        private void takeToken() {
            if (fault != 0) return;
            while (next < tape.size && tape.byteAt(next) == ' ') next++;
            start = next;
            int sign = tape.byteAt(next);
            if (sign < 0) {
                sort = END;
            } else if (sign == ';') {
                sort = SEMICOLON;
                next++;
            } else if (isLetter(sign)) {
                sort = NAME;
                while (next < tape.size && isLetter(tape.byteAt(next))) next++;
            } else if (isFigure(sign)) {
                sort = NUMBER;
                while (next < tape.size && isFigure(tape.byteAt(next))) next++;
                if (next - start > 2) fail(1, start);
            } else {
                fail(1, start);
            }
        }

        private static boolean isLetter(int sign) {
            return sign >= 'a' && sign <= 'z';
        }

        private static boolean isFigure(int sign) {
            return sign >= '0' && sign <= '9';
        }

        private boolean isWord(String word) {
            if (sort != NAME || next - start != word.length()) return false;
            for (int i = 0; i < word.length(); i++) {
                if (tape.byteAt(start + i) != word.charAt(i)) return false;
            }
            return true;
        }

        private void takeLine() {
            if (isWord("banks")) takeBanks();
            else if (isWord("stone")) takeStone();
            else if (isWord("heap")) takeHeap();
            else if (isWord("bridge")) takeBridge();
            else if (isWord("one")) takeOne();
            else if (isWord("meet")) takeMeet();
            else fail(2, start);
        }

        private int takeNumber(int least, int most) {
            takeToken();
            if (fault != 0) return least;
            if (sort != NUMBER) {
                fail(2, start);
                return least;
            }
            int v = 0;
            for (int i = start; i < next; i++) v = 10 * v + tape.byteAt(i) - '0';
            if (!within(v, least, most)) fail(3, start);
            return v;
        }

        private int takeOtherThan(int first, int most) {
            int second = takeNumber(0, most);
            if (second == first) fail(4, start);
            return second;
        }

        private int takeKind() {
            takeToken();
            if (fault != 0) return PLAIN;
            if (isWord("plain")) return PLAIN;
            if (isWord("exile")) return EXILE;
            if (isWord("carrier")) return CARRIER;
            if (isWord("child")) return CHILD;
            if (isWord("stout")) return STOUT;
            fail(2, start);
            return PLAIN;
        }

        private void takeSemicolon() {
            takeToken();
            if (fault == 0 && sort != SEMICOLON) fail(2, start);
        }

        private void takeBanks() {
            if (banksTold) fail(4, start);
            int v = takeNumber(2, BANKS_MOST);
            takeSemicolon();
            if (fault != 0) return;
            draft.banks = v;
            banksTold = true;
        }

        private void takeStone() {
            if (stoneTold) fail(4, start);
            int v = takeNumber(1, 9);
            takeSemicolon();
            if (fault != 0) return;
            draft.stoneWeight = v;
            stoneTold = true;
        }

        private void takeHeap() {
            int bank = takeNumber(0, BANKS_MOST - 1);
            // a told heap has a stone at least
            if (draft.stonesOn(bank) > 0) fail(4, start);
            int v = takeNumber(1, STONES_MOST);
            takeSemicolon();
            if (fault == 0) draft.setStones(bank, v);
        }

        private void takeBridge() {
            if (draft.bridges >= BRIDGES_MOST) fail(5, start);
            int first = takeNumber(0, BANKS_MOST - 1);
            int second = takeOtherThan(first, BANKS_MOST - 1);
            int play = takeNumber(0, PLAY_MOST);
            takeSemicolon();
            if (fault == 0) draft.addBridge(first, second, play);
        }

        private void takeOne() {
            if (draft.people >= PEOPLE_MOST) fail(5, start);
            int kind = takeKind();
            int weight = takeNumber(1, WEIGHT_MOST);
            int bank = takeNumber(0, BANKS_MOST - 1);
            int goal = takeNumber(0, BANKS_MOST - 1);
            takeSemicolon();
            if (fault == 0) draft.addOne(kind, weight, bank, goal);
        }

        private void takeMeet() {
            if (meets.size >= DAY_MOST) fail(5, start);
            int b = takeNumber(0, BRIDGES_MOST - 1);
            int p = takeNumber(0, PEOPLE_MOST - 1);
            int q = takeOtherThan(p, PEOPLE_MOST - 1);
            takeSemicolon();
            if (fault == 0) meets.append(b, p, q);
        }

        private boolean namesMissing() {
            for (int bank = draft.banks; bank < BANKS_MOST; bank++) {
                if (draft.stonesOn(bank) > 0) return true;
            }
            for (int b = 0; b < draft.bridges; b++) {
                if (!draft.hasBank(draft.firstBank(b)) || !draft.hasBank(draft.secondBank(b))) return true;
            }
            for (int p = 0; p < draft.people; p++) {
                if (!draft.hasBank(draft.bankOf(p)) || !draft.hasBank(draft.goalOf(p))) return true;
            }
            for (int i = 0; i < meets.size; i++) {
                if (!draft.hasBridge(meets.bridgeAt(i))) return true;
                if (!draft.hasOne(meets.aheadAt(i)) || !draft.hasOne(meets.otherAt(i))) return true;
            }
            return false;
        }
    }

    /** The most pairs for all errands at a bridge, by the fewest stones. */
    private static final class Match {
        // one seat more, for a new one
        private static final int SEATS = PEOPLE_MOST + 1;

        private final int[] costs = new int[SEATS * SEATS];
        private final int[] chosen = new int[SEATS];
        private final int[] best = new int[SEATS];
        private int pairs;
        private int stones;

        void gather(Gorge g, int b, boolean heaving) {
            for (int p = 0; p < SEATS; p++) {
                for (int q = 0; q < SEATS; q++) {
                    put(costs, p * SEATS + q, g.errandStones(b, p, q, heaving));
                }
            }
        }

        void leaveOut(int p) {
            for (int x = 0; x < SEATS; x++) {
                put(costs, p * SEATS + x, -1);
                put(costs, x * SEATS + p, -1);
            }
        }

        void seatNew(int side, int bits) {
            for (int x = 0; x < PEOPLE_MOST; x++) {
                int place = side == 0 ? PEOPLE_MOST * SEATS + x : x * SEATS + PEOPLE_MOST;
                put(costs, place, (bits >> x & 1) - 1);
            }
        }

        void solve() {
            pairs = -1;
            stones = 0;
            choose(this, 0, 0, 0, 0);
        }

        /** Goes through all choices, the first ones first, so that of like ones the first stays. */
        private static void choose(Match m, int p, int taken, int pairs, int stones) {
            if (p >= SEATS) {
                m.compare(pairs, stones);
                return;
            }
            for (int q = 0; q < SEATS; q++) {
                int cost = at(m.costs, p * SEATS + q);
                if (cost < 0 || (taken >> q & 1) != 0) continue;
                put(m.chosen, p, q);
                choose(m, p + 1, taken | 1 << q, pairs + 1, stones + cost);
            }
            put(m.chosen, p, -1);
            choose(m, p + 1, taken, pairs, stones);
        }

        private void compare(int newPairs, int newStones) {
            if (newPairs < pairs || newPairs == pairs && newStones >= stones) return;
            pairs = newPairs;
            stones = newStones;
            copyRow(chosen, best);
        }

        int fellowOf(int p) {
            if (p >= 0 && p < SEATS && at(best, p) >= 0) return at(best, p);
            for (int x = 0; x < SEATS; x++) if (at(best, x) == p) return x;
            return NONE;
        }
    }

    /** All ways to stand that crossings without stones lead to from a first one. */
    private static final class Paths {
        // a crossing leaves as many on each bank as there were: 6! / (2! 2! 1! 1!) ways at most
        private static final int WAYS_MOST = 180;
        private static final int MOVES_MOST = BRIDGES_MOST * PEOPLE_MOST * (PEOPLE_MOST - 1);
        private static final int CODES = 1 << 2 * PEOPLE_MOST;

        private final int[] labels = new int[MOVES_MOST];
        private final int[] masks = new int[MOVES_MOST];
        private final int[] wants = new int[MOVES_MOST];
        private final int[] flips = new int[MOVES_MOST];
        private int moves;
        // of each way to stand its place among those that were found, and 1; 0: not found
        private final int[] places = new int[CODES];
        private final int[] codes = new int[WAYS_MOST];
        private final int[] parents = new int[WAYS_MOST];
        private final int[] steps = new int[WAYS_MOST];
        private final int[] depths = new int[WAYS_MOST];
        private int size;
        private final int[] rows = new int[(FITS_MOST + 1) * WAYS_MOST];

        /** Breadth first by rising labels: so the first path to each way is the first of the shortest. */
        void survey(Gorge g, int start) {
            for (int i = 0; i < size; i++) put(places, at(codes, i), 0);
            size = 0;
            listMoves(g);
            add(start, -1, 0);
            for (int i = 0; i < size && i < WAYS_MOST; i++) {
                for (int m = 0; m < moves; m++) {
                    if (isOpen(at(codes, i), m)) add(at(codes, i) ^ at(flips, m), i, m);
                }
            }
        }

        private void listMoves(Gorge g) {
            moves = 0;
            for (int b = 0; b < g.bridges; b++) {
                for (int p = 0; p < g.people; p++) {
                    for (int q = 0; q < g.people; q++) {
                        if (p == q || g.isExileAgainst(b, p, q) || !g.isLevel(b, p, q, 0, 0)) continue;
                        addMove(g, b, p, q);
                    }
                }
            }
        }

        private void addMove(Gorge g, int b, int p, int q) {
            if (moves >= MOVES_MOST) return;
            int differ = g.firstBank(b) ^ g.secondBank(b);
            put(labels, moves, 100 * b + 10 * p + q);
            put(masks, moves, 3 << 2 * p | 3 << 2 * q);
            put(wants, moves, g.firstBank(b) << 2 * p | g.secondBank(b) << 2 * q);
            put(flips, moves, differ << 2 * p | differ << 2 * q);
            moves++;
        }

        private boolean isOpen(int code, int m) {
            return (code & at(masks, m)) == at(wants, m);
        }

        private void add(int code, int parent, int step) {
            if (size >= WAYS_MOST || at(places, code) != 0) return;
            put(codes, size, code);
            put(parents, size, parent);
            put(steps, size, step);
            put(depths, size, parent < 0 ? 0 : at(depths, parent) + 1);
            size++;
            put(places, code, size);
        }

        /** -1 where it was not found. */
        int indexOf(int code) {
            return at(places, code) - 1;
        }

        int depthOf(int index) {
            return at(depths, index);
        }

        /** The k-th step on the path to a way that was found. */
        int stepTo(int index, int k) {
            int i = index;
            for (int depth = depthOf(index); depth > k + 1; depth--) i = at(parents, i);
            return at(labels, at(steps, i));
        }

        int banksOf(int p) {
            int bits = 0;
            for (int i = 0; i < size; i++) bits |= 1 << (at(codes, i) >> 2 * p & 3);
            return bits;
        }

        /** For each way and 0 to n steps: how many rows of so many steps lead from it to the goal. */
        void countRows(int goal, int n) {
            for (int i = 0; i < size; i++) put(rows, i, at(codes, i) == goal ? 1 : 0);
            for (int left = 1; left <= n; left++) {
                // what lies deeper can not be come to with so many steps left
                for (int i = 0; i < size && depthOf(i) <= n - left; i++) {
                    int sum = 0;
                    for (int m = 0; m < moves; m++) sum += rowsBy(i, m, left);
                    put(rows, left * WAYS_MOST + i, sum);
                }
            }
        }

        int rowsFrom(int i, int left) {
            return at(rows, left * WAYS_MOST + i);
        }

        private int rowsBy(int i, int m, int left) {
            if (!isOpen(at(codes, i), m)) return 0;
            return rowsFrom(indexOf(at(codes, i) ^ at(flips, m)), left - 1);
        }

        /** The k-th step of the first row of n steps, after countRows. */
        int stepOfFirstRow(int n, int k) {
            int i = 0;
            for (int step = 0; step < n; step++) {
                int m = 0;
                while (m < moves && rowsBy(i, m, n - step) == 0) m++;
                if (m >= moves) return NONE;
                if (step == k) return at(labels, m);
                i = indexOf(at(codes, i) ^ at(flips, m));
            }
            return NONE;
        }
    }

    /** Rows of cells of three lanes; what the machine would find there is found by looking. */
    private static final class Sheets {
        private final int[] cells = new int[SHEETS * CELLS_MOST];
        private final int[] sizes = new int[SHEETS];
        // of each sheet its lane and 1; 0: nothing
        private final int[] lanes = new int[SHEETS];

        int laneOf(int k) {
            return at(lanes, k) - 1;
        }

        int sizeOf(int k) {
            return at(sizes, k);
        }

        void renew(int k, int lane, int n) {
            put(lanes, k, lane + 1);
            put(sizes, k, n);
            for (int i = 0; i < CELLS_MOST; i++) put(cells, k * CELLS_MOST + i, 0);
        }

        int cellAt(int k, int i) {
            return at(cells, k * CELLS_MOST + i);
        }

        void setCell(int k, int i, int v) {
            int lane = laneOf(k);
            int lowest = lane == 0 ? (byte) v : lane == 1 ? (short) v : v;
            put(cells, k * CELLS_MOST + i, lowest);
        }

        /** The fault of taking n cells from i on, of a sheet taken as of a lane; 0 if there is none. */
        int faultAt(int k, int lane, int i, int n) {
            if (laneOf(k) < 0) return NULL_FAULT;
            if (laneOf(k) != lane) return CAST_FAULT;
            return i < 0 || i > sizeOf(k) - n ? INDEX_FAULT : 0;
        }
    }
}
