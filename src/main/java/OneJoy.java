import java.util.Arrays;
import java.util.NoSuchElementException;

/** A village with one happiness at a time: where it is, where it goes, and how to have it. */
public final class OneJoy {
    public static final int NONE = -1;
    public static final int HIDDEN = -1000000;

    private static final int TAPE_MOST = 240;
    private static final int HOUSES_MOST = 12;
    private static final int WINDOWS_MOST = 16;
    private static final int LAWS_MOST = 4;
    private static final int TRAITS = 5;
    private static final int WANT = 0;
    private static final int ENVY = 1;
    private static final int PEACE = 2;
    private static final int KIDS = 3;
    private static final int TUNE = 4;
    private static final int WANT_MOST = 9;
    private static final int DAY = 24;
    private static final int GO_MOST = 240;
    private static final int LAST_HOUR = 9999;
    private static final int AHEAD_MOST = 99;
    private static final int PLAN_MOST = 30;
    private static final int SILL_HOURS = 48;
    private static final int SHUTTERS_MOST = 3;
    private static final int LOG_MOST = 60;
    private static final int ACTS_MOST = 40;
    private static final int LIE_STEP = 3;

    private final Tape tape = new Tape();
    private final VillageText villageText = new VillageText(tape);
    private final LawText lawText = new LawText(tape);
    private final Village village = new Village();
    private final Village image = new Village();
    private boolean imaged;
    private final Law plainLaw = new Law();
    private final Law[] laws = new Law[LAWS_MOST];
    private int lawCount;
    private int lawHeld = NONE;
    private final Acts acts = new Acts();
    private int mistLevel;
    private final Walk walk = new Walk();
    private final Ways ways = new Ways(walk);
    private final Spread spread = new Spread(walk);
    private final Seen seen = new Seen(walk);

    public OneJoy() {
    }

    public int feed(int a, int b, int c, int d, int e) {
        int more = Tape.signsOf(a) + Tape.signsOf(b) + Tape.signsOf(c) + Tape.signsOf(d) + Tape.signsOf(e);
        if (tape.size() + more > TAPE_MOST) {
            return NONE;
        }
        tape.add(a);
        tape.add(b);
        tape.add(c);
        tape.add(d);
        tape.add(e);
        return tape.size();
    }

    public boolean end(int n) {
        return tape.cut(n);
    }

    public int fault(int sort) {
        switch (sort) {
            case 0: return villageText.read();
            case 1: return lawText.read();
            default: return -2;
        }
    }

    public int text(int sort) {
        if (sort == 0 && villageText.read() == NONE) {
            return settle();
        }
        if (sort == 1 && lawCount < LAWS_MOST && lawText.read() == NONE) {
            return enact();
        }
        return NONE;
    }

    private int settle() {
        village.take(villageText.draft);
        acts.clear();
        seen.clear();
        imaged = false;
        tape.cut(0);
        return village.houses;
    }

    private int enact() {
        int number = lawCount;
        if (number < 0 || number >= laws.length) {
            return NONE;
        }
        Law law = new Law();
        law.take(lawText.draft);
        laws[number] = law;
        lawCount++;
        tape.cut(0);
        return number;
    }

    public int house(int house, int what) throws NoSuchElementException {
        if (!village.hasHouse(house) || what < 0 || what > TRAITS + 1) {
            throw new NoSuchElementException();
        }
        if (what < TRAITS) {
            return village.trait(house, what);
        }
        return what == TRAITS ? bit(Rows.has(village.backs, house)) : Rows.get(village.laughs, house);
    }

    private static int bit(boolean is) {
        return is ? 1 : 0;
    }

    public int window(int window, int what) {
        if (!village.hasWindow(window) || what < 0 || what > 3) {
            return NONE;
        }
        if (what < 2) {
            return village.endOf(window, what);
        }
        return bit(Rows.has(what == 2 ? village.oneWays : village.shuts, window));
    }

    public boolean law(int law) {
        if (law < NONE || law >= lawCount) {
            return false;
        }
        lawHeld = law;
        return true;
    }

    private Law lawInForce() {
        if (lawHeld < 0 || lawHeld >= laws.length) {
            return plainLaw;
        }
        Law law = laws[lawHeld];
        return law == null ? plainLaw : law;
    }

    private void startWalk() {
        walk.start(village, lawInForce());
    }

    public int wish(int house) {
        if (!village.hasHouse(house)) {
            return HIDDEN;
        }
        startWalk();
        return walk.wishOf(house);
    }

    public boolean turn(int house, boolean is) {
        if (!village.hasHouse(house) || Rows.has(village.backs, house) == is) {
            return false;
        }
        acts.keep(Acts.TURN, house, village);
        village.backs ^= 1 << house;
        return true;
    }

    public boolean shut(int window, boolean is) {
        if (!village.hasWindow(window) || Rows.has(village.shuts, window) == is) {
            return false;
        }
        acts.keep(Acts.SHUT, window, village);
        village.shuts ^= 1 << window;
        return true;
    }

    public boolean music(boolean is) {
        if (village.isNone() || village.music == is) {
            return false;
        }
        acts.keep(Acts.MUSIC, 0, village);
        village.music = is;
        return true;
    }

    public boolean fog(boolean is) {
        if (village.isNone() || village.fog == is) {
            return false;
        }
        acts.keep(Acts.FOG, 0, village);
        village.fog = is;
        return true;
    }

    public int prescribe(int house) {
        if (!village.hasHouse(house) || village.trait(house, WANT) >= WANT_MOST) {
            return NONE;
        }
        acts.keep(Acts.PRESCRIBE, house, village);
        village.want(house, 1);
        return village.trait(house, WANT);
    }

    public int lie() {
        if (village.isNone()) {
            return NONE;
        }
        int to = village.threeOn(village.at);
        if (to == village.at) {
            return NONE;
        }
        acts.keep(Acts.LIE, 0, village);
        village.before = village.at;
        village.at = to;
        return to;
    }

    public int go(int n) {
        return letHoursGo(n, 0, 0L);
    }

    public boolean mist(int v) {
        if (v < 0 || v > 99 || v == mistLevel) {
            return false;
        }
        mistLevel = v;
        return true;
    }

    public int mists(int n, long seed) {
        return letHoursGo(n, mistLevel, seed);
    }

    /** A mist of 0 lies above no draw: then only the fog by hand counts. */
    private int letHoursGo(int n, int mistNow, long seed) {
        if (village.isNone() || n < 1 || n > GO_MOST || village.hour + n > LAST_HOUR) {
            return NONE;
        }
        startWalk();
        long x = seed;
        for (int i = 0; i < n; i++) {
            x = x * 6364136223846793005L + 1442695040888963407L;
            long draw = (x >>> 33) % 100;
            acts.keep(Acts.HOUR, 0, village);
            if (village.fog || draw < mistNow) {
                walk.stay();
            } else {
                walk.hour();
            }
            village.passHour(walk.at, walk.before);
        }
        return village.hour;
    }

    public int undo() {
        return acts.undoLatest(village);
    }

    public int log(int i) {
        return village.logged(i);
    }

    public int ahead(int n) {
        if (village.isNone() || n < 0 || n > AHEAD_MOST) {
            return NONE;
        }
        startWalk();
        walk.hours(n);
        return walk.at;
    }

    public int when(int house) {
        if (!village.hasHouse(house)) {
            return NONE;
        }
        startWalk();
        return walk.hoursTo(house);
    }

    public int round(int what) {
        if (village.isNone() || what < 0 || what > 1) {
            return NONE;
        }
        startWalk();
        walk.circle();
        return what == 0 ? walk.lead : walk.loop;
    }

    public int never() {
        if (village.isNone()) {
            return NONE;
        }
        startWalk();
        walk.circle();
        return village.all() & ~walk.met;
    }

    public int feud() {
        if (village.isNone()) {
            return NONE;
        }
        startWalk();
        walk.circle();
        return walk.metInLoop();
    }

    public int stand(int house, int n) {
        if (!village.hasHouse(house) || n < 1 || n > PLAN_MOST) {
            return NONE;
        }
        startWalk();
        return ways.fewestTurns(house, n);
    }

    public int lies(int house, int n) {
        if (!village.hasHouse(house) || n < 0 || n > PLAN_MOST) {
            return NONE;
        }
        startWalk();
        return spread.fewestLies(house, n);
    }

    public int shutters(int house) {
        if (!village.hasHouse(house)) {
            return NONE;
        }
        startWalk();
        return ways.fewestShutters(house);
    }

    public int feast(int house, int n, int what) {
        if (!village.hasHouse(house) || n < 1 || n > PLAN_MOST || what < 0 || what > 1) {
            return NONE;
        }
        startWalk();
        int more = ways.leastFeast(house, n);
        return what == 0 ? more : ways.feaster();
    }

    public int odds(int house, int n, int chance) {
        if (!village.hasHouse(house) || n < 0 || n > PLAN_MOST || chance < 0 || chance > 100) {
            return NONE;
        }
        startWalk();
        return (int) spread.partsAt(house, n, chance);
    }

    public int mean(int house, int n, int chance) {
        if (!village.hasHouse(house) || n < 1 || n > PLAN_MOST || chance < 0 || chance > 100) {
            return NONE;
        }
        startWalk();
        return (int) (spread.partsTogether(house, n, chance) / 1000L);
    }

    public int pretend(int one, int other, int x, int y) {
        if (!village.areTwo(one, other) || x < 0 || x > 1 || y < 0 || y > 1) {
            return HIDDEN;
        }
        startWalk();
        return ways.gain(one, other, x, y);
    }

    public int rests(int one, int other, int i) {
        if (!village.areTwo(one, other) || i < NONE) {
            return NONE;
        }
        startWalk();
        return ways.rest(one, other, i);
    }

    public int see(int j, int house) {
        if (!village.hasHouse(house)) {
            return NONE;
        }
        return seen.add(j, house);
    }

    public int envied(int i) {
        if (village.isNone() || i < NONE) {
            return NONE;
        }
        startWalk();
        seen.ask(village.all(), i);
        return i == NONE ? seen.sets : seen.chosen;
    }

    public int sure() {
        if (village.isNone()) {
            return NONE;
        }
        startWalk();
        seen.ask(village.all(), NONE);
        return seen.sets == 0 ? NONE : seen.common;
    }

    public int sills() {
        if (village.isNone()) {
            return NONE;
        }
        startWalk();
        int sills = 0;
        for (int i = 0; i < SILL_HOURS; i++) {
            int from = walk.at;
            walk.hour();
            int window = walk.at == from ? NONE : village.lowestOpen(from, walk.at);
            if (window != NONE) {
                sills |= 1 << window;
            }
        }
        return sills;
    }

    public int sees(int house) {
        if (!village.hasHouse(house)) {
            return NONE;
        }
        return village.watchers(house, village.shuts);
    }

    public int most() {
        if (village.isNone()) {
            return NONE;
        }
        int most = 0;
        for (int h = 1; h < village.houses; h++) {
            if (Rows.get(village.laughs, h) > Rows.get(village.laughs, most)) {
                most = h;
            }
        }
        return most;
    }

    public int widows() {
        if (village.isNone()) {
            return NONE;
        }
        int widows = 0;
        for (int h = 0; h < village.houses; h++) {
            if (Rows.get(village.laughs, h) == 0) {
                widows |= 1 << h;
            }
        }
        return widows;
    }

    public int image() {
        if (village.isNone()) {
            return NONE;
        }
        image.take(village);
        imaged = true;
        return village.hour;
    }

    public int back() {
        if (!imaged) {
            return NONE;
        }
        village.take(image);
        acts.clear();
        return village.hour;
    }

    public int count(int what) {
        switch (what) {
            case 0: return village.houses;
            case 1: return village.windows;
            case 2: return lawCount;
            case 3: return tape.size();
            case 4: return lawHeld;
            case 5: return village.hour;
            case 6: return village.at;
            case 7: return village.before;
            case 8: return bit(village.music);
            case 9: return bit(village.fog);
            case 10: return village.laughsTogether();
            case 11: return mistLevel;
            case 12: return seen.size();
            case 13: return village.logLength();
            case 14: return acts.size();
            default: return HIDDEN;
        }
    }

    /** Rows of numbers, touched only within their bounds. */
    static final class Rows {
        private Rows() {
        }

        static int get(int[] row, int i) {
            return row != null && i >= 0 && i < row.length ? row[i] : 0;
        }

        static void put(int[] row, int i, int value) {
            if (row != null && i >= 0 && i < row.length) {
                row[i] = value;
            }
        }

        static boolean has(int bits, int i) {
            return i >= 0 && i < 31 && (bits >> i & 1) == 1;
        }

        static void copy(int[] from, int[] to) {
            if (from == null || to == null) {
                return;
            }
            for (int i = 0; i < from.length && i < to.length; i++) {
                to[i] = from[i];
            }
        }
    }

    /** The bytes fed so far, and a reader's place and fault in them. */
    static final class Tape {
        static final int END = -1;
        private static final int BLANK = 32;
        private final int[] bytes = new int[TAPE_MOST];
        private int length;
        private int next;
        private int fault = NONE;

        static int signsOf(int number) {
            int signs = 0;
            for (int shift = 24; shift >= 0; shift -= 8) {
                if ((number >>> shift & 255) != 0) {
                    signs++;
                }
            }
            return signs;
        }

        int size() {
            return length;
        }

        void add(int number) {
            for (int shift = 24; shift >= 0; shift -= 8) {
                int sign = number >>> shift & 255;
                if (sign != 0 && length < bytes.length) {
                    Rows.put(bytes, length, sign);
                    length++;
                }
            }
        }

        boolean cut(int n) {
            if (n < 0 || n > length) {
                return false;
            }
            length = n;
            return true;
        }

        void rewind() {
            next = 0;
            fault = NONE;
        }

        int faultFound() {
            return fault;
        }

        /** The next sign; END from a fault on, so that every reader comes to its end. */
        int peek() {
            if (fault != NONE) {
                return END;
            }
            for (int i = next; i >= 0 && i < length && i < bytes.length; i++) {
                next = i;
                if (bytes[i] != BLANK) {
                    return bytes[i];
                }
            }
            next = length;
            return END;
        }

        void skip() {
            next++;
        }

        void fail() {
            failAt(next);
        }

        void failAtEnd() {
            failAt(length);
        }

        private void failAt(int place) {
            if (fault == NONE) {
                fault = place;
            }
        }

        void expect(int sign) {
            if (peek() == sign) {
                next++;
            } else {
                failAt(next);
            }
        }

        private int here() {
            return next >= 0 && next < length && next < bytes.length ? bytes[next] : END;
        }

        private static boolean isDigit(int sign) {
            return sign >= '0' && sign <= '9';
        }

        int number(int digits, int most) {
            if (!isDigit(peek())) {
                failAt(next);
                return 0;
            }
            int value = 0;
            for (int i = 0; i < digits && isDigit(here()); i++) {
                value = value * 10 + here() - '0';
                next++;
            }
            // One digit too many is told ahead of a number that is too high.
            if (isDigit(here())) {
                failAt(next);
            }
            if (value > most) {
                failAt(next - 1);
            }
            return value;
        }
    }

    /** Reads the tape as a village. */
    static final class VillageText {
        private static final String VILLAGE_LETTERS = "ahm";
        private static final String HOUSE_LETTERS = "wepktb";
        private static final String WINDOW_LETTERS = "abo";
        private static final int[] VILLAGE_MOST = {11, 23, 1};
        private static final int[] HOUSE_MOST = {9, 9, 9, 9, 9, 1};
        private static final int[] WINDOW_MOST = {11, 11, 1};
        private static final int[] VILLAGE_FIRST = {0, 0, 0};
        private static final int[] HOUSE_FIRST = {5, 1, 1, 0, 0, 0};
        private static final int[] WINDOW_FIRST = {0, 1, 0};
        private final Tape tape;
        /** The village that the latest reading told, whole only without a fault. */
        final Village draft = new Village();
        private final int[] values = new int[6];
        private boolean told;

        VillageText(Tape tape) {
            this.tape = tape;
        }

        int read() {
            tape.rewind();
            draft.clear();
            told = false;
            for (int i = 0; i < TAPE_MOST; i++) {
                clause();
                if (tape.peek() == Tape.END) {
                    break;
                }
                tape.expect(';');
            }
            if (!draft.holdsTogether()) {
                tape.failAtEnd();
            }
            return tape.faultFound();
        }

        private void clause() {
            int sign = tape.peek();
            if (sign == 'v' && !told) {
                told = true;
                items(VILLAGE_LETTERS, VILLAGE_MOST, VILLAGE_FIRST);
                draft.begin(values);
            } else if (sign == 'd' && draft.houses < HOUSES_MOST) {
                items(HOUSE_LETTERS, HOUSE_MOST, HOUSE_FIRST);
                draft.addHouse(values);
            } else if (sign == 'w' && draft.windows < WINDOWS_MOST) {
                items(WINDOW_LETTERS, WINDOW_MOST, WINDOW_FIRST);
                draft.addWindow(values);
            } else {
                tape.fail();
            }
        }

        private void items(String letters, int[] most, int[] first) {
            tape.skip();
            Rows.copy(first, values);
            int there = 0;
            for (int i = 0; i <= letters.length(); i++) {
                int sign = tape.peek();
                int item = sign == Tape.END ? NONE : letters.indexOf((char) sign);
                if (item < 0) {
                    return;
                }
                if (Rows.has(there, item)) {
                    tape.fail();
                    return;
                }
                there |= 1 << item;
                tape.skip();
                Rows.put(values, item, tape.number(2, Rows.get(most, item)));
            }
        }
    }

    /** Reads the tape as a law. */
    static final class LawText {
        private static final int DEPTH_MOST = 6;
        private static final String LETTERS = "wepktbuh";
        private final Tape tape;
        /** The law that the latest reading told, whole only without a fault. */
        final Law draft = new Law();

        LawText(Tape tape) {
            this.tape = tape;
        }

        int read() {
            tape.rewind();
            draft.clear();
            for (int i = 0; i < TAPE_MOST; i++) {
                clause();
                if (tape.peek() == Tape.END) {
                    break;
                }
                tape.expect(';');
            }
            return tape.faultFound();
        }

        private void clause() {
            tape.expect('y');
            tape.expect(':');
            int sign = tape.peek();
            boolean bound = sign == '!' || sign == '(';
            if (bound) {
                condition(0);
            } else {
                sum(0);
                bound = comparing(tape.peek()) != NONE;
                if (bound) {
                    comparison(0);
                    moreUnits(0);
                    moreTruths(0);
                }
            }
            if (bound) {
                tape.expect('?');
                draft.emit(Law.UNLESS, 0);
                sum(0);
            }
            draft.emit(Law.GIVE, 0);
        }

        private void condition(int depth) {
            truth(depth);
            moreTruths(depth);
        }

        private void moreTruths(int depth) {
            for (int i = 0; i < TAPE_MOST && tape.peek() == '|'; i++) {
                tape.skip();
                truth(depth);
                draft.emit(Law.OR, 0);
            }
        }

        private void truth(int depth) {
            unit(depth);
            moreUnits(depth);
        }

        private void moreUnits(int depth) {
            for (int i = 0; i < TAPE_MOST && tape.peek() == '&'; i++) {
                tape.skip();
                unit(depth);
                draft.emit(Law.AND, 0);
            }
        }

        private void unit(int depth) {
            int sign = tape.peek();
            if (sign != '!' && sign != '(') {
                sum(depth);
                comparison(depth);
            } else if (depth >= DEPTH_MOST) {
                tape.fail();
            } else if (sign == '!') {
                tape.skip();
                unit(depth + 1);
                draft.emit(Law.NOT, 0);
            } else {
                tape.skip();
                condition(depth + 1);
                tape.expect(')');
            }
        }

        private static int comparing(int sign) {
            switch (sign) {
                case '=': return Law.SAME;
                case '<': return Law.LESS;
                case '>': return Law.MORE;
                default: return NONE;
            }
        }

        /** From the sign between two sums on. */
        private void comparison(int depth) {
            int kind = comparing(tape.peek());
            if (kind == NONE) {
                tape.fail();
                return;
            }
            tape.skip();
            sum(depth);
            draft.emit(kind, 0);
        }

        private void sum(int depth) {
            term(depth);
            for (int i = 0; i < TAPE_MOST; i++) {
                int sign = tape.peek();
                if (sign != '+' && sign != '-') {
                    return;
                }
                tape.skip();
                term(depth);
                draft.emit(sign == '+' ? Law.PLUS : Law.LESS_BY, 0);
            }
        }

        private void term(int depth) {
            atom(depth);
            for (int i = 0; i < TAPE_MOST; i++) {
                int sign = tape.peek();
                if (sign != '*' && sign != '/') {
                    return;
                }
                tape.skip();
                atom(depth);
                draft.emit(sign == '*' ? Law.TIMES : Law.PARTED, 0);
            }
        }

        private void atom(int depth) {
            int sign = tape.peek();
            int letter = sign == Tape.END ? NONE : LETTERS.indexOf((char) sign);
            if (letter >= 0) {
                tape.skip();
                draft.emit(Law.LETTER, letter);
            } else if (sign != '[') {
                draft.emit(Law.NUMBER, tape.number(4, 9999));
            } else if (depth >= DEPTH_MOST) {
                tape.fail();
            } else {
                tape.skip();
                sum(depth + 1);
                tape.expect(']');
            }
        }
    }

    /** A law as steps on a stack; without any step it is the plain one. */
    static final class Law {
        static final int NUMBER = 0;
        static final int LETTER = 1;
        static final int PLUS = 2;
        static final int LESS_BY = 3;
        static final int TIMES = 4;
        static final int PARTED = 5;
        static final int SAME = 6;
        static final int LESS = 7;
        static final int MORE = 8;
        static final int AND = 9;
        static final int OR = 10;
        static final int NOT = 11;
        static final int UNLESS = 12;
        static final int GIVE = 13;
        private static final int NUMBERS = 10000;
        private static final int BOUND = 1000000;
        private static final int STACK = 40;
        private static final int TIME_LETTER = TRAITS + 2;
        private final int[] steps = new int[TAPE_MOST];
        private final int[] stack = new int[STACK];
        private int length;
        private int open = NONE;
        private boolean tellsTime;

        void clear() {
            length = 0;
            open = NONE;
            tellsTime = false;
        }

        boolean isByTime() {
            return tellsTime;
        }

        boolean isPlain() {
            return length == 0;
        }

        void take(Law other) {
            Rows.copy(other.steps, steps);
            length = other.length;
            tellsTime = other.tellsTime;
        }

        /** A failing condition leads behind the GIVE of its own clause: known when that comes. */
        void emit(int kind, int value) {
            if (kind == UNLESS) {
                open = length;
            }
            if (kind == LETTER && value == TIME_LETTER) {
                tellsTime = true;
            }
            Rows.put(steps, length, kind * NUMBERS + value);
            length = Math.min(length + 1, steps.length);
            if (kind == GIVE && open != NONE) {
                Rows.put(steps, open, UNLESS * NUMBERS + length);
                open = NONE;
            }
        }

        int worth(int[] letters) {
            int top = 0;
            int at = 0;
            for (int done = 0; done < TAPE_MOST && at < length; done++) {
                int kind = Rows.get(steps, at) / NUMBERS;
                int value = Rows.get(steps, at) % NUMBERS;
                at++;
                if (kind == GIVE) {
                    return Rows.get(stack, top - 1);
                } else if (kind == UNLESS) {
                    top--;
                    at = Rows.get(stack, top) == 0 ? value : at;
                } else if (kind == NOT) {
                    Rows.put(stack, top - 1, 1 - Rows.get(stack, top - 1));
                } else if (kind == NUMBER || kind == LETTER) {
                    Rows.put(stack, top, kind == NUMBER ? value : Rows.get(letters, value));
                    top++;
                } else {
                    top--;
                    Rows.put(stack, top - 1, joined(kind, Rows.get(stack, top - 1), Rows.get(stack, top)));
                }
            }
            return 0;
        }

        private static int joined(int kind, long a, long b) {
            long number;
            switch (kind) {
                case PLUS:
                    number = a + b;
                    break;
                case LESS_BY:
                    number = a - b;
                    break;
                case TIMES:
                    number = a * b;
                    break;
                case PARTED:
                    number = b == 0L ? 0L : a / b;
                    break;
                case SAME:
                    number = a == b ? 1L : 0L;
                    break;
                case LESS:
                    number = a < b ? 1L : 0L;
                    break;
                case MORE:
                    number = a > b ? 1L : 0L;
                    break;
                case AND:
                    number = a & b;
                    break;
                default:
                    number = a | b;
                    break;
            }
            return (int) (number > BOUND ? BOUND : number < -BOUND ? -BOUND : number);
        }
    }

    /** A village as it is, its log with it; without houses there is none. */
    static final class Village {
        /** So many that the log is whole again when all acts are undone. */
        private static final int LOG_KEPT = LOG_MOST + ACTS_MOST;
        private static final int KIDS_WAKE = 6;
        int houses;
        int windows;
        final int[] traits = new int[HOUSES_MOST * TRAITS];
        final int[] laughs = new int[HOUSES_MOST];
        final int[] ends = new int[WINDOWS_MOST * 2];
        int oneWays;
        int shuts;
        int backs;
        boolean music;
        boolean fog;
        int at = NONE;
        int before = NONE;
        int hour;
        private final int[] log = new int[LOG_KEPT];
        private int hoursLogged;

        void clear() {
            houses = 0;
            windows = 0;
            Arrays.fill(laughs, 0);
            oneWays = 0;
            shuts = 0;
            backs = 0;
            music = false;
            fog = false;
            at = 0;
            before = NONE;
            hour = 0;
            hoursLogged = 0;
        }

        void take(Village other) {
            houses = other.houses;
            windows = other.windows;
            Rows.copy(other.traits, traits);
            Rows.copy(other.laughs, laughs);
            Rows.copy(other.ends, ends);
            oneWays = other.oneWays;
            shuts = other.shuts;
            backs = other.backs;
            music = other.music;
            fog = other.fog;
            at = other.at;
            before = other.before;
            hour = other.hour;
            Rows.copy(other.log, log);
            hoursLogged = other.hoursLogged;
        }

        void begin(int[] values) {
            at = Rows.get(values, 0);
            hour = Rows.get(values, 1);
            music = Rows.get(values, 2) == 1;
        }

        void addHouse(int[] values) {
            for (int t = 0; t < TRAITS; t++) {
                Rows.put(traits, houses * TRAITS + t, Rows.get(values, t));
            }
            backs |= Rows.get(values, TRAITS) << houses;
            houses++;
        }

        void addWindow(int[] values) {
            Rows.put(ends, windows * 2, Rows.get(values, 0));
            Rows.put(ends, windows * 2 + 1, Rows.get(values, 1));
            oneWays |= Rows.get(values, 2) << windows;
            windows++;
        }

        /** Whether it has a house and names none but its own, no window from a house to itself. */
        boolean holdsTogether() {
            for (int w = 0; w < windows; w++) {
                if (!areTwo(endOf(w, 0), endOf(w, 1))) {
                    return false;
                }
            }
            return hasHouse(at);
        }

        boolean isNone() {
            return houses == 0;
        }

        boolean hasHouse(int house) {
            return house >= 0 && house < houses;
        }

        boolean hasWindow(int window) {
            return window >= 0 && window < windows;
        }

        boolean areTwo(int one, int other) {
            return hasHouse(one) && hasHouse(other) && one != other;
        }

        int all() {
            return (1 << houses) - 1;
        }

        int trait(int house, int what) {
            return Rows.get(traits, house * TRAITS + what);
        }

        void want(int house, int more) {
            Rows.put(traits, house * TRAITS + WANT, trait(house, WANT) + more);
        }

        int endOf(int window, int which) {
            return Rows.get(ends, window * 2 + which);
        }

        private boolean leads(int window, int from, int to) {
            if (endOf(window, 0) == from && endOf(window, 1) == to) {
                return true;
            }
            return !Rows.has(oneWays, window) && endOf(window, 1) == from && endOf(window, 0) == to;
        }

        int lowestOpen(int from, int to) {
            for (int w = 0; w < windows; w++) {
                if (!Rows.has(shuts, w) && leads(w, from, to)) {
                    return w;
                }
            }
            return NONE;
        }

        /** Who sees it from a house, if these windows are shut. */
        int watchers(int house, int shutNow) {
            int bits = 0;
            for (int w = 0; w < windows; w++) {
                if (Rows.has(shutNow, w)) {
                    continue;
                }
                int a = endOf(w, 0);
                int b = endOf(w, 1);
                if (a == house) {
                    bits |= 1 << b;
                } else if (b == house && !Rows.has(oneWays, w)) {
                    bits |= 1 << a;
                }
            }
            return bits;
        }

        int threeOn(int house) {
            return houses > 0 ? (house + LIE_STEP) % houses : house;
        }

        private void laugh(int house, int times) {
            Rows.put(laughs, house, Rows.get(laughs, house) + times);
        }

        /** All that laugh in the hour that begins at this one, or (times -1) all that did. */
        private void laughAll(int times) {
            laugh(at, times);
            for (int h = 0; h < houses && hour % DAY == KIDS_WAKE; h++) {
                laugh(h, times * trait(h, KIDS));
            }
        }

        int laughsTogether() {
            int together = 0;
            for (int h = 0; h < houses; h++) {
                together += Rows.get(laughs, h);
            }
            return together;
        }

        void passHour(int atNow, int beforeNow) {
            at = atNow;
            before = beforeNow;
            laughAll(1);
            hour++;
            Rows.put(log, hoursLogged % LOG_KEPT, at);
            hoursLogged++;
        }

        void takeHourBack() {
            hoursLogged--;
            hour--;
            laughAll(-1);
        }

        int logLength() {
            return Math.min(hoursLogged, LOG_MOST);
        }

        int logged(int i) {
            if (i < 0 || i >= logLength()) {
                return NONE;
            }
            return Rows.get(log, (hoursLogged - 1 - i) % LOG_KEPT);
        }
    }

    /** The latest acts by hand, each with where it was ahead of it. */
    static final class Acts {
        static final int TURN = 0;
        static final int SHUT = 1;
        static final int MUSIC = 2;
        static final int FOG = 3;
        static final int PRESCRIBE = 4;
        static final int LIE = 5;
        static final int HOUR = 6;
        private final int[] kinds = new int[ACTS_MOST];
        private final int[] whats = new int[ACTS_MOST];
        private final int[] places = new int[ACTS_MOST];
        private final int[] befores = new int[ACTS_MOST];
        private int kept;
        private int next;

        void clear() {
            kept = 0;
        }

        int size() {
            return kept;
        }

        void keep(int kind, int what, Village village) {
            Rows.put(kinds, next, kind);
            Rows.put(whats, next, what);
            Rows.put(places, next, village.at);
            Rows.put(befores, next, village.before);
            next = (next + 1) % ACTS_MOST;
            kept = Math.min(kept + 1, ACTS_MOST);
        }

        int undoLatest(Village village) {
            if (kept == 0) {
                return NONE;
            }
            kept--;
            next = (next + ACTS_MOST - 1) % ACTS_MOST;
            restore(Rows.get(kinds, next), Rows.get(whats, next), village);
            village.at = Rows.get(places, next);
            village.before = Rows.get(befores, next);
            return kept;
        }

        private static void restore(int kind, int what, Village village) {
            switch (kind) {
                case TURN:
                    village.backs ^= 1 << what;
                    break;
                case SHUT:
                    village.shuts ^= 1 << what;
                    break;
                case MUSIC:
                    village.music = !village.music;
                    break;
                case FOG:
                    village.fog = !village.fog;
                    break;
                case PRESCRIBE:
                    village.want(what, -1);
                    break;
                case HOUR:
                    village.takeHourBack();
                    break;
                default:
                    break;
            }
        }
    }

    /** The way it goes hour by hour, apart from the village, without fog. */
    static final class Walk {
        static final int PLACES = HOUSES_MOST * (HOUSES_MOST + 1);
        private static final int STATES = PLACES * DAY;
        /** Marks start anew from here, long before they would go round. */
        private static final int TRAIL_LAST = 2000000000;
        final Village place = new Village();
        private Law law;
        int at;
        int before;
        int time;
        /** Who turns the back, and whose envy counts: these may be other than the village's. */
        int backs;
        int envious;
        /** The houses that see it from a house, rising, in a row of their own each. */
        private final int[] doors = new int[HOUSES_MOST * HOUSES_MOST];
        private final int[] doorCounts = new int[HOUSES_MOST];
        /** Wishes by house, back, and time: asked for far more often than they change. */
        private final int[] wishes = new int[HOUSES_MOST * 2 * DAY];
        private final int[] letters = new int[TRAITS + 3];
        private final int[] trail = new int[STATES];
        private int trailBase = 1;
        /** What the latest circle told: hours ahead of the loop, in the loop, houses met. */
        int lead;
        int loop;
        int met;

        void start(Village village, Law lawNow) {
            place.take(village);
            law = lawNow;
            backs = place.backs;
            envious = place.all();
            for (int h = 0; h < place.houses; h++) {
                reckonWishes(h);
            }
            openDoors(place.shuts);
            restart();
        }

        void restart() {
            standAt(place.at, place.before, place.hour % DAY);
        }

        void standAt(int atNow, int beforeNow, int timeNow) {
            at = atNow;
            before = beforeNow;
            time = timeNow;
        }

        void openDoors(int shuts) {
            for (int h = 0; h < place.houses; h++) {
                int watchers = place.watchers(h, shuts);
                int n = 0;
                for (int other = 0; other < place.houses; other++) {
                    if (Rows.has(watchers, other)) {
                        Rows.put(doors, h * HOUSES_MOST + n, other);
                        n++;
                    }
                }
                Rows.put(doorCounts, h, n);
            }
        }

        int doorCount() {
            return Rows.get(doorCounts, at);
        }

        int door(int i) {
            return Rows.get(doors, at * HOUSES_MOST + i);
        }

        void stay() {
            time = (time + 1) % DAY;
        }

        void hour() {
            int next = isCalled() ? nextHouse() : NONE;
            if (next != NONE) {
                before = at;
                at = next;
            }
            time = (time + 1) % DAY;
        }

        void hours(int n) {
            for (int i = 0; i < n; i++) {
                hour();
            }
        }

        boolean isCalled() {
            int envy = 0;
            for (int i = 0; i < doorCount(); i++) {
                int house = door(i);
                if (Rows.has(envious, house)) {
                    envy += place.trait(house, ENVY);
                }
            }
            return envy >= place.trait(at, PEACE);
        }

        private int nextHouse() {
            int next = NONE;
            int least = 0;
            for (int i = 0; i < doorCount(); i++) {
                int house = door(i);
                if (house == before) {
                    continue;
                }
                int wish = wishOf(house);
                if (next == NONE || wish < least) {
                    next = house;
                    least = wish;
                }
            }
            return next;
        }

        private static int wishPlace(int house, int back, int time) {
            return (house * 2 + back) * DAY + time;
        }

        int wishOf(int house) {
            return Rows.get(wishes, wishPlace(house, Rows.has(backs, house) ? 1 : 0, time));
        }

        private void reckonWishes(int house) {
            boolean byTime = law != null && law.isByTime();
            for (int back = 0; back <= 1; back++) {
                int wish = 0;
                for (int t = 0; t < DAY; t++) {
                    wish = byTime || t == 0 ? reckonWish(house, back, t) : wish;
                    Rows.put(wishes, wishPlace(house, back, t), wish);
                }
            }
        }

        private int reckonWish(int house, int back, int t) {
            if (law == null || law.isPlain()) {
                int want = back == 1 ? 0 : place.trait(house, WANT);
                return place.music ? want - place.trait(house, TUNE) : want;
            }
            for (int i = 0; i < TRAITS; i++) {
                Rows.put(letters, i, place.trait(house, i));
            }
            Rows.put(letters, TRAITS, back);
            Rows.put(letters, TRAITS + 1, place.music ? 1 : 0);
            Rows.put(letters, TRAITS + 2, t);
            return law.worth(letters);
        }

        void want(int house, int more) {
            place.want(house, more);
            reckonWishes(house);
        }

        private void beginTrail() {
            if (trailBase > TRAIL_LAST) {
                Arrays.fill(trail, 0);
                trailBase = 1;
            } else {
                trailBase += STATES + 1;
            }
        }

        /** Where it is and its place before as one number. */
        int placeNow() {
            return at * (HOUSES_MOST + 1) + (before == NONE ? HOUSES_MOST : before);
        }

        /** Marks all as it is behind i hours; tells behind how many it was so ahead, or NONE. */
        private int markTrail(int i) {
            int state = placeNow() * DAY + time;
            int been = Rows.get(trail, state) - trailBase;
            if (been >= 0) {
                return been;
            }
            Rows.put(trail, state, trailBase + i);
            return NONE;
        }

        int hoursTo(int house) {
            beginTrail();
            for (int i = 0; i <= STATES; i++) {
                if (at == house) {
                    return i;
                }
                if (markTrail(i) != NONE) {
                    return NONE;
                }
                hour();
            }
            return NONE;
        }

        void circle() {
            beginTrail();
            met = 0;
            for (int i = 0; i <= STATES; i++) {
                int been = markTrail(i);
                if (been != NONE) {
                    lead = been;
                    loop = i - been;
                    return;
                }
                met |= 1 << at;
                hour();
            }
        }

        /** Behind a circle it stands within its loop. */
        int metInLoop() {
            int bits = 0;
            for (int i = 0; i < loop; i++) {
                bits |= 1 << at;
                hour();
            }
            return bits;
        }
    }

    /** What houses can do about the way it goes. */
    static final class Ways {
        private final Walk walk;
        private int goal;
        private int best;
        private int feaster;
        private final int[] gains = new int[4];

        Ways(Walk walk) {
            this.walk = walk;
        }

        int fewestTurns(int house, int n) {
            goal = house;
            best = NONE;
            tryTurns(n, walk.backs, 0, 0);
            return best;
        }

        /** Asks for a back only where it may matter: what is never asked need not be turned. */
        private void tryTurns(int left, int settled, int turned, int depth) {
            if (depth > HOUSES_MOST || isWorse(turned)) {
                return;
            }
            for (int i = left; i > 0; i--) {
                int open = unsettled(settled);
                if (open != NONE) {
                    int at = walk.at;
                    int before = walk.before;
                    int time = walk.time;
                    tryTurns(i, settled | 1 << open, turned, depth + 1);
                    walk.standAt(at, before, time);
                    walk.backs |= 1 << open;
                    tryTurns(i, settled | 1 << open, turned | 1 << open, depth + 1);
                    walk.backs &= ~(1 << open);
                    return;
                }
                walk.hour();
            }
            if (walk.at == goal) {
                best = turned;
            }
        }

        private boolean isWorse(int turned) {
            if (best == NONE) {
                return false;
            }
            int more = Integer.bitCount(turned) - Integer.bitCount(best);
            return more > 0 || more == 0 && turned >= best;
        }

        private int unsettled(int settled) {
            int open = NONE;
            int choices = 0;
            for (int i = 0; i < walk.doorCount(); i++) {
                int house = walk.door(i);
                if (house != walk.before) {
                    choices++;
                    open = open == NONE && !Rows.has(settled, house) ? house : open;
                }
            }
            return choices > 1 && walk.isCalled() ? open : NONE;
        }

        int fewestShutters(int house) {
            for (int size = 0; size <= SHUTTERS_MOST; size++) {
                int bits = shutMore(house, size, walk.place.windows, 0);
                if (bits != NONE) {
                    return bits;
                }
            }
            return NONE;
        }

        /** The highest window rises slowest, so the least bits of a size come first. */
        private int shutMore(int house, int size, int below, int bits) {
            if (size <= 0) {
                walk.openDoors(walk.place.shuts | bits);
                walk.restart();
                return walk.hoursTo(house) == NONE ? bits : NONE;
            }
            for (int w = size - 1; w < below; w++) {
                if (!Rows.has(walk.place.shuts, w)) {
                    int found = shutMore(house, size - 1, w, bits | 1 << w);
                    if (found != NONE) {
                        return found;
                    }
                }
            }
            return NONE;
        }

        private boolean isThere(int house, int n) {
            walk.restart();
            for (int i = 0; i < n; i++) {
                walk.hour();
            }
            return walk.at == house;
        }

        int leastFeast(int house, int n) {
            feaster = NONE;
            if (isThere(house, n)) {
                return 0;
            }
            for (int more = 1; more <= WANT_MOST; more++) {
                for (int h = 0; h < walk.place.houses; h++) {
                    if (walk.place.trait(h, WANT) + more <= WANT_MOST && feasts(h, more, house, n)) {
                        feaster = h;
                        return more;
                    }
                }
            }
            return NONE;
        }

        private boolean feasts(int who, int more, int house, int n) {
            walk.want(who, more);
            boolean there = isThere(house, n);
            walk.want(who, -more);
            return there;
        }

        int feaster() {
            return feaster;
        }

        int gain(int one, int other, int x, int y) {
            int two = 1 << one | 1 << other;
            walk.backs = walk.place.backs & ~two | x << one | y << other;
            walk.restart();
            int gain = 0;
            for (int i = 0; i < DAY; i++) {
                walk.hour();
                if (walk.at == one) {
                    gain++;
                } else if (walk.at == other) {
                    gain--;
                }
            }
            return gain;
        }

        int rest(int one, int other, int i) {
            for (int k = 0; k < gains.length; k++) {
                Rows.put(gains, k, gain(one, other, k >> 1, k & 1));
            }
            int rests = 0;
            for (int k = 0; k < gains.length; k++) {
                int here = Rows.get(gains, k);
                if (Rows.get(gains, k ^ 2) <= here && Rows.get(gains, k ^ 1) >= here) {
                    if (rests == i) {
                        return 10 * (k >> 1) + (k & 1);
                    }
                    rests++;
                }
            }
            return i == NONE ? rests : NONE;
        }
    }

    /** Where it may be behind hours, by place and place before: fog's parts, or lies. */
    static final class Spread {
        private static final long WHOLE = 1000000000L;
        private static final long FAR = 1000L;
        private final Walk walk;
        private long[] now = new long[Walk.PLACES];
        private long[] then = new long[Walk.PLACES];

        Spread(Walk walk) {
            this.walk = walk;
        }

        private void walkFrom(int place, int time) {
            int before = place % (HOUSES_MOST + 1);
            walk.standAt(place / (HOUSES_MOST + 1), before == HOUSES_MOST ? NONE : before, time);
        }

        private static long get(long[] row, int i) {
            return row != null && i >= 0 && i < row.length ? row[i] : 0L;
        }

        private static void put(long[] row, int i, long value) {
            if (row != null && i >= 0 && i < row.length) {
                row[i] = value;
            }
        }

        private void begin(long elsewhere, long here) {
            Arrays.fill(now, elsewhere);
            put(now, walk.placeNow(), here);
        }

        private void turnOver() {
            long[] row = now;
            now = then;
            then = row;
        }

        private void fogHour(int chance) {
            int time = walk.time;
            Arrays.fill(then, 0L);
            for (int p = 0; p < Walk.PLACES; p++) {
                long parts = get(now, p);
                if (parts > 0L) {
                    long held = parts * chance / 100L;
                    put(then, p, get(then, p) + held);
                    walkFrom(p, time);
                    walk.hour();
                    int to = walk.placeNow();
                    put(then, to, get(then, to) + parts - held);
                }
            }
            walk.time = (time + 1) % DAY;
            turnOver();
        }

        private long partsOf(int house) {
            long parts = 0L;
            for (int before = 0; before <= HOUSES_MOST; before++) {
                parts += get(now, house * (HOUSES_MOST + 1) + before);
            }
            return parts;
        }

        long partsAt(int house, int n, int chance) {
            begin(0L, WHOLE);
            for (int i = 0; i < n; i++) {
                fogHour(chance);
            }
            return partsOf(house);
        }

        long partsTogether(int house, int n, int chance) {
            begin(0L, WHOLE);
            long together = 0L;
            for (int i = 0; i < n; i++) {
                fogHour(chance);
                together += partsOf(house);
            }
            return together;
        }

        private void reach(long lies) {
            walk.hour();
            int to = walk.placeNow();
            put(then, to, Math.min(get(then, to), lies));
        }

        private void lieHour() {
            int time = walk.time;
            Arrays.fill(then, FAR);
            for (int p = 0; p < Walk.PLACES; p++) {
                long lies = get(now, p);
                if (lies < FAR) {
                    walkFrom(p, time);
                    reach(lies);
                    walkFrom(p, time);
                    int from = walk.at;
                    int to = walk.place.threeOn(from);
                    if (to != from) {
                        walk.standAt(to, from, time);
                        reach(lies + 1L);
                    }
                }
            }
            walk.time = (time + 1) % DAY;
            turnOver();
        }

        int fewestLies(int house, int n) {
            begin(FAR, 0L);
            for (int i = 0; i < n; i++) {
                lieHour();
            }
            long fewest = FAR;
            for (int before = 0; before <= HOUSES_MOST; before++) {
                fewest = Math.min(fewest, get(now, house * (HOUSES_MOST + 1) + before));
            }
            return fewest < FAR ? (int) fewest : NONE;
        }
    }

    /** What is seen ahead, and the sets of the envious that fit it. */
    static final class Seen {
        private static final int MOST = 12;
        private static final int HOURS_MOST = 20;
        private final Walk walk;
        private final int[] hours = new int[MOST];
        private final int[] places = new int[MOST];
        private int size;
        /** The houses (bits) at which it may be behind each number of hours. */
        private final int[] allowed = new int[HOURS_MOST + 1];
        private int last;
        /** What the latest asking told: how many sets, who is in all, the one chosen. */
        int sets;
        int common;
        int chosen;

        Seen(Walk walk) {
            this.walk = walk;
        }

        void clear() {
            size = 0;
        }

        int size() {
            return size;
        }

        int add(int j, int house) {
            if (j < 1 || j > HOURS_MOST || size >= MOST) {
                return NONE;
            }
            Rows.put(hours, size, j);
            Rows.put(places, size, house);
            size++;
            return size;
        }

        private void gather() {
            Arrays.fill(allowed, -1);
            last = 0;
            for (int i = 0; i < size; i++) {
                int j = Rows.get(hours, i);
                Rows.put(allowed, j, Rows.get(allowed, j) & 1 << Rows.get(places, i));
                last = Math.max(last, j);
            }
        }

        private boolean fits(int set) {
            walk.envious = set;
            walk.restart();
            for (int j = 1; j <= last; j++) {
                walk.hour();
                if (!Rows.has(Rows.get(allowed, j), walk.at)) {
                    return false;
                }
            }
            return true;
        }

        void ask(int all, int i) {
            gather();
            sets = 0;
            common = all;
            chosen = NONE;
            for (int set = 0; set <= all; set++) {
                if (fits(set)) {
                    if (sets == i) {
                        chosen = set;
                    }
                    sets++;
                    common &= set;
                }
            }
        }
    }
}
