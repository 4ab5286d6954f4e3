import java.util.NoSuchElementException;

/**
 * A corset for the river, as DOC.md says it. Every row is made in a constructor and used
 * again by each call, so that no call makes an object.
 */
public final class RiverCorset {
    public static final int NONE = -1;

    /** The answer of a call that was not refused and has nothing to tell. */
    private static final int NOTHING = -2;
    private static final int NO_PARISH = -10000;

    private static final int MOST_REACHES = 6;
    private static final int MOST_ROPES = 7;
    private static final int MOST_HANDS = 6;
    private static final int MOST_BOATS = 5;
    private static final int MOST_NAMES = MOST_REACHES + MOST_ROPES + MOST_HANDS + MOST_BOATS;
    private static final int MOST_SETS = 1 << MOST_ROPES;
    private static final int MOST_FLOW = 999;
    private static final int MOST_SEED = 65536;
    private static final int MOST_YEARS = 60;
    private static final int MOST_PULL = 5;
    private static final int MOST_UNDONE = 16;
    private static final int MOST_MARKS = 3;
    private static final int MOST_BYTES = 900;
    private static final int BYTES_FED = 20;
    private static final int MOST_LETTERS = 8;
    private static final int MOST_DIGITS = 3;

    private static final int PLAIN = 0;
    private static final int MEADOW = 1;
    private static final int CELLAR = 2;
    private static final int BRIDGE = 3;
    private static final int BRIDGE_HARM = 20;

    private static final int NOT_REFUSED = 0;
    private static final int NO_SUCH = 1;
    private static final int BAD_NUMBER = 2;
    private static final int NO_ROOM = 3;
    private static final int FAULTY = 4;
    private static final int NOT_SO = 5;
    private static final int NONE_THERE = 6;

    private static final int FAULT_FORM = 1;
    private static final int FAULT_UNTOLD = 2;
    private static final int FAULT_AGAIN = 3;
    private static final int FAULT_BOUNDS = 4;
    private static final int FAULT_MANY = 5;
    private static final int FAULT_LACKS = 6;

    private static final int TOKEN_END = 0;
    private static final int TOKEN_WORD = 1;
    private static final int TOKEN_WHOLE = 2;
    private static final int TOKEN_PART = 3;
    private static final int TOKEN_BAD = 4;

    private static final int LINE_RIVER = 0;
    private static final int LINE_REACH = 1;
    private static final int LINE_ROPE = 2;
    private static final int LINE_LOOSE = 3;
    private static final int LINE_HAND = 4;
    private static final int LINE_BOAT = 5;
    private static final int LINE_MUD = 6;

    // A WORD is held as its bytes, the first one highest, as numbers are fed: eight fill a long.
    private static final long WORD_RIVER = 0x7269766572L;
    private static final long WORD_REACH = 0x7265616368L;
    private static final long WORD_ROPE = 0x726f7065L;
    private static final long WORD_LOOSE = 0x6c6f6f7365L;
    private static final long WORD_HAND = 0x68616e64L;
    private static final long WORD_BOAT = 0x626f6174L;
    private static final long WORD_MUD = 0x6d7564L;
    private static final long WORD_PLAIN = 0x706c61696eL;
    private static final long WORD_MEADOW = 0x6d6561646f77L;
    private static final long WORD_CELLAR = 0x63656c6c6172L;
    private static final long WORD_BRIDGE = 0x627269646765L;
    private static final long WORD_FLOW = 0x666c6f77L;
    private static final long WORD_TAPE = 0x74617065L;
    private static final long WORD_WIDE = 0x77696465L;
    private static final long WORD_BANK = 0x62616e6bL;
    private static final long WORD_AT = 0x6174L;
    private static final long WORD_PULLS = 0x70756c6c73L;
    private static final long WORD_BEARS = 0x6265617273L;
    private static final long WORD_STRONG = 0x7374726f6e67L;
    private static final long WORD_DEEP = 0x64656570L;

    private final Reader reader = new Reader();
    private final State now = new State();
    private final Memory memory = new Memory();
    private final Water water = new Water();
    private final Lacer lacer = new Lacer();
    private final Wharf wharf = new Wharf();
    private final MudBook mudBook = new MudBook();
    private final Parishes parishes = new Parishes();
    private final Almanac almanac = new Almanac();
    private River told = new River();
    private int troubled = NOT_REFUSED;

    public RiverCorset() {
    }

    // ---- the river

    public int feed(int a, int b, int c, int d, int e) {
        if (reader.filled + BYTES_FED > MOST_BYTES) {
            return NONE;
        }
        reader.append(a);
        reader.append(b);
        reader.append(c);
        reader.append(d);
        reader.append(e);
        return reader.filled;
    }

    public int river(int n) {
        if (n < 0 || n > reader.filled) {
            return refused(BAD_NUMBER);
        }
        if (!reader.read(n)) {
            return refused(FAULTY);
        }
        told = reader.exchange(told);
        now.begin(told);
        memory.forget();
        return answered(told.reaches);
    }

    public int fault() {
        return reader.fault;
    }

    public int where() {
        return troubled == FAULTY ? reader.faultPlace : NONE;
    }

    // ---- now

    public int reach(int r, int what) {
        if (!isReach(r) || what < 0 || what > 7) {
            return refused(NO_SUCH);
        }
        pourNow();
        return answered(ofReach(r, what));
    }

    public int rope(int k, int what) {
        if (!isRope(k) || what < 0 || what > 5) {
            return refused(NO_SUCH);
        }
        pourNow();
        return answered(ofRope(k, what));
    }

    public int below() {
        if (noRiver()) {
            return refused(NO_SUCH);
        }
        pourNow();
        return answered(water.below);
    }

    public int harm() {
        if (noRiver()) {
            return refused(NO_SUCH);
        }
        pourNow();
        return answered(water.allHarm);
    }

    public int spills() {
        if (noRiver()) {
            return refused(NO_SUCH);
        }
        pourNow();
        return answered(water.spilling);
    }

    public int outOfLaw() {
        if (noRiver()) {
            return refused(NO_SUCH);
        }
        pourNow();
        return answered(water.tooWide(told));
    }

    public int narrowest() {
        if (noRiver()) {
            return refused(NO_SUCH);
        }
        pourNow();
        int first = 0;
        for (int r = 1; r < told.reaches; r++) {
            if (water.width[r] < water.width[first]) {
                first = r;
            }
        }
        return answered(first);
    }

    public int worn() {
        if (noRiver()) {
            return refused(NO_SUCH);
        }
        pourNow();
        int first = NOTHING;
        for (int k = 0; k < told.ropes; k++) {
            if (isIn(now.laced, k)
                    && (first == NOTHING || water.slack(told, now, k) < water.slack(told, now, first))) {
                first = k;
            }
        }
        return answered(first);
    }

    public int spilt() {
        if (noRiver()) {
            return refused(NO_SUCH);
        }
        pourNow();
        return answered(now.flow - water.below);
    }

    // ---- by another flow

    public int depthBy(int r, int flow) {
        if (!isReach(r)) {
            return refused(NO_SUCH);
        }
        if (!isFlow(flow)) {
            return refused(BAD_NUMBER);
        }
        pourBy(flow);
        return answered(water.depth[r]);
    }

    public int harmBy(int flow) {
        if (noRiver()) {
            return refused(NO_SUCH);
        }
        if (!isFlow(flow)) {
            return refused(BAD_NUMBER);
        }
        pourBy(flow);
        return answered(water.allHarm);
    }

    public int bursts(int flow) {
        if (noRiver()) {
            return refused(NO_SUCH);
        }
        if (!isFlow(flow)) {
            return refused(BAD_NUMBER);
        }
        pourBy(flow);
        return answered(water.bursting(told, now, now.laced));
    }

    public int burstsAt(int k) {
        if (!isRope(k)) {
            return refused(NO_SUCH);
        }
        if (!isIn(now.laced, k)) {
            return refused(NOT_SO);
        }
        water.narrow(told, now.laced);
        return answered(water.leastFlow(told, told.ropeAt[k], told.bears[k] - now.wear[k]));
    }

    public int spillsAt(int r) {
        if (!isReach(r)) {
            return refused(NO_SUCH);
        }
        water.narrow(told, now.laced);
        return answered(water.leastFlow(told, r, told.bank[r]));
    }

    public int safeFlow() {
        if (noRiver()) {
            return refused(NO_SUCH);
        }
        water.narrow(told, now.laced);
        return answered(water.safest(told));
    }

    // ---- lacing

    public int lacing() {
        if (noRiver()) {
            return refused(NO_SUCH);
        }
        lacer.search(told, now);
        return answered(lacer.fewest);
    }

    public int length() {
        if (noRiver()) {
            return refused(NO_SUCH);
        }
        lacer.search(told, now);
        return answered(lacer.shortest);
    }

    public int lengthSum() {
        if (noRiver()) {
            return refused(NO_SUCH);
        }
        lacer.search(told, now);
        return answered(lacer.shortestSum);
    }

    public int lacings() {
        if (noRiver()) {
            return refused(NO_SUCH);
        }
        lacer.search(told, now);
        return answered(lacer.count);
    }

    public int bestChange() {
        if (noRiver()) {
            return refused(NO_SUCH);
        }
        lacer.searchChange(told, now);
        return answered(lacer.changed);
    }

    public int changeHarm() {
        if (noRiver()) {
            return refused(NO_SUCH);
        }
        lacer.searchChange(told, now);
        return answered(lacer.changedHarm);
    }

    // ---- boats, hands

    public int passes(int b) {
        if (!isBoat(b)) {
            return refused(NO_SUCH);
        }
        return answered(wharf.passedNow(told, now, b));
    }

    public int stuck(int b) {
        if (!isBoat(b)) {
            return refused(NO_SUCH);
        }
        int passed = wharf.passedNow(told, now, b);
        for (int r = 0; r < told.reaches; r++) {
            if (!isIn(passed, r)) {
                return answered(r);
            }
        }
        return answered(NOTHING);
    }

    public int letThrough(int b) {
        if (!isBoat(b)) {
            return refused(NO_SUCH);
        }
        return answered(wharf.easedFor(told, now, b));
    }

    public int bestBoat() {
        if (noRiver()) {
            return refused(NO_SUCH);
        }
        return answered(wharf.farthest(told, now));
    }

    public int needs(int k) {
        if (!isRope(k)) {
            return refused(NO_SUCH);
        }
        pourNow();
        return answered(haulOf(k));
    }

    public int hauls(int k) {
        if (!isRope(k)) {
            return refused(NO_SUCH);
        }
        pourNow();
        return answered(wharf.fewestHands(told, haulOf(k)));
    }

    // ---- let out

    public int fits() {
        if (noRiver()) {
            return refused(NO_SUCH);
        }
        mudBook.search(told, now);
        return answered(mudBook.count);
    }

    public int could() {
        if (noRiver()) {
            return refused(NO_SUCH);
        }
        mudBook.search(told, now);
        return answered(mudBook.inSome);
    }

    public int surely() {
        if (noRiver()) {
            return refused(NO_SUCH);
        }
        mudBook.search(told, now);
        return answered(mudBook.inAll);
    }

    public int ask() {
        if (noRiver()) {
            return refused(NO_SUCH);
        }
        mudBook.search(told, now);
        mudBook.choose(told);
        return answered(mudBook.asked);
    }

    public int askLeaves() {
        if (noRiver()) {
            return refused(NO_SUCH);
        }
        mudBook.search(told, now);
        mudBook.choose(told);
        return answered(mudBook.left);
    }

    public int judge() {
        if (noRiver()) {
            return refused(NO_SUCH);
        }
        pourNow();
        for (int r = 0; r < told.reaches; r++) {
            if (told.mud[r] != NONE && told.mud[r] != water.depth[r]) {
                return answered(r);
            }
        }
        return answered(NOTHING);
    }

    // ---- parishes

    public int parish(int one, int other, boolean ofOther) {
        if (told.reaches < 2) {
            troubled = NO_SUCH;
            return NO_PARISH;
        }
        if (!isPull(one) || !isPull(other)) {
            troubled = BAD_NUMBER;
            return NO_PARISH;
        }
        parishes.pull(told, now, one, other);
        return answered(ofOther ? parishes.otherHas : parishes.oneHas);
    }

    public int rests() {
        if (told.reaches < 2) {
            return refused(NO_SUCH);
        }
        parishes.search(told, now);
        return answered(parishes.count);
    }

    public int rest() {
        if (told.reaches < 2) {
            return refused(NO_SUCH);
        }
        parishes.search(told, now);
        return answered(parishes.first);
    }

    // ---- centuries

    public int century(int seed, int n) {
        if (noRiver()) {
            return refused(NO_SUCH);
        }
        if (!isSeed(seed) || !isYears(n)) {
            return refused(BAD_NUMBER);
        }
        almanac.pass(told, now, seed, n);
        return answered(almanac.harmDone);
    }

    public int burstBy(int seed, int n) {
        if (noRiver()) {
            return refused(NO_SUCH);
        }
        if (!isSeed(seed) || !isYears(n)) {
            return refused(BAD_NUMBER);
        }
        almanac.pass(told, now, seed, n);
        return answered(almanac.trial.burst);
    }

    public int yearOf(int k, int seed) {
        if (!isRope(k)) {
            return refused(NO_SUCH);
        }
        if (!isSeed(seed)) {
            return refused(BAD_NUMBER);
        }
        if (!isIn(now.laced, k)) {
            return refused(NOT_SO);
        }
        return answered(almanac.burstYear(told, now, seed, k));
    }

    public int firstFlood(int seed, int n) {
        if (noRiver()) {
            return refused(NO_SUCH);
        }
        if (!isSeed(seed) || !isYears(n)) {
            return refused(BAD_NUMBER);
        }
        almanac.pass(told, now, seed, n);
        return answered(almanac.floodYear);
    }

    // ---- acts

    public int lace(int k) {
        if (!isRope(k)) {
            return refused(NO_SUCH);
        }
        if (isIn(now.laced | now.burst, k)) {
            return refused(NOT_SO);
        }
        memory.keep(now);
        now.laced |= 1 << k;
        water.narrow(told, now.laced);
        return answered(water.width[told.ropeAt[k]]);
    }

    public int ease(int k) {
        if (!isRope(k)) {
            return refused(NO_SUCH);
        }
        if (!isIn(now.laced, k)) {
            return refused(NOT_SO);
        }
        memory.keep(now);
        now.laced &= ~(1 << k);
        water.narrow(told, now.laced);
        return answered(water.width[told.ropeAt[k]]);
    }

    public boolean mend(int k) {
        if (!isRope(k)) {
            return denied(NO_SUCH);
        }
        if (!isIn(now.burst, k)) {
            return denied(NONE_THERE);
        }
        memory.keep(now);
        now.burst &= ~(1 << k);
        now.wear[k] = 0;
        return granted();
    }

    public boolean rain(int flow) {
        if (noRiver()) {
            return denied(NO_SUCH);
        }
        if (!isFlow(flow)) {
            return denied(BAD_NUMBER);
        }
        memory.keep(now);
        now.flow = flow;
        return granted();
    }

    public int year() {
        if (noRiver()) {
            return refused(NO_SUCH);
        }
        memory.keep(now);
        return answered(almanac.passYear(told, now));
    }

    public boolean seed(int v) {
        if (noRiver()) {
            return denied(NO_SUCH);
        }
        if (!isSeed(v)) {
            return denied(BAD_NUMBER);
        }
        now.seed = v;
        return granted();
    }

    public boolean undo() {
        if (memory.count == 0) {
            return denied(NONE_THERE);
        }
        memory.restore(now);
        return granted();
    }

    public int mark() {
        if (noRiver()) {
            return refused(NO_SUCH);
        }
        if (memory.marked >= MOST_MARKS) {
            return refused(NO_ROOM);
        }
        return answered(memory.addMark(now));
    }

    public boolean back(int mark) {
        if (mark < 0 || mark >= memory.marked) {
            return denied(NO_SUCH);
        }
        memory.returnTo(mark, now);
        return granted();
    }

    // ---- what is told

    public int led(int i) throws NoSuchElementException {
        int ahead = 0;
        for (int k = 0; k < told.ropes; k++) {
            if (isIn(now.laced, k)) {
                if (ahead == i) {
                    return k;
                }
                ahead++;
            }
        }
        throw new NoSuchElementException();
    }

    public int size(int what) {
        switch (what) {
            case 0: return told.flow;
            case 1: return told.tape;
            case 2: return told.reaches;
            case 3: return told.ropes;
            case 4: return told.hands;
            case 5: return told.boats;
            case 6: return told.muds;
            case 7: return now.flow;
            case 8: return now.seed;
            case 9: return memory.count;
            case 10: return memory.marked;
            case 11: return reader.filled;
            default: return NONE;
        }
    }

    public int trouble() {
        return troubled;
    }

    // ---- what the calls share

    private int answered(int answer) {
        troubled = NOT_REFUSED;
        return answer;
    }

    private int refused(int number) {
        troubled = number;
        return NONE;
    }

    private boolean granted() {
        troubled = NOT_REFUSED;
        return true;
    }

    private boolean denied(int number) {
        troubled = number;
        return false;
    }

    private boolean noRiver() {
        return told.reaches == 0;
    }

    private boolean isReach(int r) {
        return r >= 0 && r < told.reaches;
    }

    private boolean isRope(int k) {
        return k >= 0 && k < told.ropes;
    }

    private boolean isBoat(int b) {
        return b >= 0 && b < told.boats;
    }

    private static boolean isFlow(int flow) {
        return flow >= 1 && flow <= MOST_FLOW;
    }

    private static boolean isPull(int pull) {
        return pull >= 0 && pull <= MOST_PULL;
    }

    private static boolean isSeed(int seed) {
        return seed >= 0 && seed <= MOST_SEED;
    }

    private static boolean isYears(int n) {
        return n >= 0 && n <= MOST_YEARS;
    }

    private static boolean isIn(int bits, int number) {
        return ((bits >> number) & 1) == 1;
    }

    private void pourNow() {
        pourBy(now.flow);
    }

    private void pourBy(int flow) {
        water.run(told, now.laced, flow);
    }

    private int haulOf(int k) {
        return told.pulls[k] * water.depth[told.ropeAt[k]];
    }

    private int ofReach(int r, int what) {
        switch (what) {
            case 0: return told.kind[r];
            case 1: return told.wide[r];
            case 2: return told.bank[r];
            case 3: return water.width[r];
            case 4: return water.comes[r];
            case 5: return water.depth[r];
            case 6: return water.spill[r];
            default: return water.harmAt[r];
        }
    }

    private int ofRope(int k, int what) {
        switch (what) {
            case 0: return told.ropeAt[k];
            case 1: return told.pulls[k];
            case 2: return told.bears[k];
            case 3: return isIn(now.burst, k) ? 2 : (now.laced >> k) & 1;
            case 4: return now.wear[k];
            default: return (water.bursting(told, now, now.laced) >> k) & 1;
        }
    }

    /** What a text told: it stays as it is till another text is read. */
    private static final class River {
        int flow;
        int tape;
        int reaches;
        int ropes;
        int hands;
        int boats;
        int muds;
        int loose;
        final int[] kind = new int[MOST_REACHES];
        final int[] wide = new int[MOST_REACHES];
        final int[] bank = new int[MOST_REACHES];
        /** NONE where no mud is told, since mud may be told to be 0 deep. */
        final int[] mud = new int[MOST_REACHES];
        final int[] ropeAt = new int[MOST_ROPES];
        final int[] pulls = new int[MOST_ROPES];
        final int[] bears = new int[MOST_ROPES];
        final int[] strong = new int[MOST_HANDS];
        final int[] boatWide = new int[MOST_BOATS];
        final int[] boatDeep = new int[MOST_BOATS];

        void empty() {
            flow = 0;
            tape = 0;
            reaches = 0;
            ropes = 0;
            hands = 0;
            boats = 0;
            muds = 0;
            loose = 0;
            for (int r = 0; r < MOST_REACHES; r++) {
                mud[r] = NONE;
            }
        }
    }

    /** What ACTS change; a rope that is in neither set of bits is loose. */
    private static final class State {
        int laced;
        int burst;
        int flow;
        int seed;
        final int[] wear = new int[MOST_ROPES];

        void begin(River river) {
            laced = ((1 << river.ropes) - 1) & ~river.loose;
            burst = 0;
            flow = river.flow;
            seed = 0;
            for (int k = 0; k < MOST_ROPES; k++) {
                wear[k] = 0;
            }
        }

        void copy(State from) {
            laced = from.laced;
            burst = from.burst;
            flow = from.flow;
            seed = from.seed;
            for (int k = 0; k < MOST_ROPES; k++) {
                wear[k] = from.wear[k];
            }
        }
    }

    /** What can be undone, in a ring so that the oldest makes room, and the MARKS. */
    private static final class Memory {
        final State[] kept = new State[MOST_UNDONE];
        final State[] marks = new State[MOST_MARKS];
        int oldest;
        int count;
        int marked;

        Memory() {
            for (int i = 0; i < MOST_UNDONE; i++) {
                kept[i] = new State();
            }
            for (int i = 0; i < MOST_MARKS; i++) {
                marks[i] = new State();
            }
        }

        void forget() {
            oldest = 0;
            count = 0;
            marked = 0;
        }

        void keep(State state) {
            if (count == MOST_UNDONE) {
                oldest = (oldest + 1) % MOST_UNDONE;
                count--;
            }
            kept[(oldest + count) % MOST_UNDONE].copy(state);
            count++;
        }

        void restore(State state) {
            if (count > 0) {
                count--;
                state.copy(kept[(oldest + count) % MOST_UNDONE]);
            }
        }

        int addMark(State state) {
            if (marked >= MOST_MARKS) {
                return NONE;
            }
            marks[marked].copy(state);
            marked++;
            return marked - 1;
        }

        void returnTo(int mark, State state) {
            if (mark >= 0 && mark < marked) {
                state.copy(marks[mark]);
                oldest = 0;
                count = 0;
            }
        }
    }

    /** THE TAPE, and the reading of its text into a draft, so that a FAULT leaves the RIVER. */
    private static final class Reader {
        final byte[] tape = new byte[MOST_BYTES];
        final long[] names = new long[MOST_NAMES];
        final int[] nameLines = new int[MOST_NAMES];
        final int[] nameNumbers = new int[MOST_NAMES];
        int filled;
        int fault;
        int faultPlace;
        private River draft = new River();
        private int named;
        private int end;
        private int at;
        private int sort;
        private int place;
        private int value;
        private long code;

        void append(int four) {
            for (int shift = 24; shift >= 0; shift -= 8) {
                if (filled < MOST_BYTES) {
                    tape[filled] = (byte) (four >>> shift);
                    filled++;
                }
            }
        }

        /** Hands over what was read, and takes the old one to be the next draft. */
        River exchange(River old) {
            River fresh = draft;
            draft = old;
            return fresh;
        }

        boolean read(int n) {
            end = Math.min(n, filled);
            filled = 0;
            at = 0;
            fault = 0;
            named = 0;
            draft.empty();
            next();
            boolean good = readLine();
            for (int i = 0; i < MOST_BYTES && good && sort == TOKEN_PART; i++) {
                next();
                good = readLine();
            }
            if (!good) {
                return false;
            }
            if (sort != TOKEN_END) {
                return fail(FAULT_FORM);
            }
            return draft.reaches > 0 || fail(FAULT_LACKS);
        }

        private boolean fail(int number) {
            fault = number;
            faultPlace = place;
            return false;
        }

        // ---- TOKENS

        private void next() {
            while (at < end && tape[at] == ' ') {
                at++;
            }
            place = at;
            if (at >= end) {
                sort = TOKEN_END;
            } else if (tape[at] == ';') {
                sort = TOKEN_PART;
                at++;
            } else if (tape[at] >= 'a' && tape[at] <= 'z') {
                scanWord();
            } else if (tape[at] >= '0' && tape[at] <= '9') {
                scanWhole();
            } else {
                sort = TOKEN_BAD;
            }
        }

        /** Letters that stand together are one WORD or, if they are too many, begin none. */
        private void scanWord() {
            code = 0;
            while (at < end && tape[at] >= 'a' && tape[at] <= 'z') {
                code = (code << 8) | tape[at];
                at++;
            }
            sort = at - place <= MOST_LETTERS ? TOKEN_WORD : TOKEN_BAD;
        }

        private void scanWhole() {
            value = 0;
            while (at < end && tape[at] >= '0' && tape[at] <= '9') {
                value = 10 * value + tape[at] - '0';
                at++;
            }
            sort = at - place <= MOST_DIGITS ? TOKEN_WHOLE : TOKEN_BAD;
        }

        private boolean isWord(long word) {
            return sort == TOKEN_WORD && code == word;
        }

        // ---- LINES

        private int lineOfWord() {
            if (sort != TOKEN_WORD) {
                return NONE;
            }
            if (code == WORD_RIVER) {
                return LINE_RIVER;
            }
            if (code == WORD_REACH) {
                return LINE_REACH;
            }
            if (code == WORD_ROPE) {
                return LINE_ROPE;
            }
            if (code == WORD_LOOSE) {
                return LINE_LOOSE;
            }
            if (code == WORD_HAND) {
                return LINE_HAND;
            }
            if (code == WORD_BOAT) {
                return LINE_BOAT;
            }
            return code == WORD_MUD ? LINE_MUD : NONE;
        }

        private int kindOfWord() {
            if (isWord(WORD_PLAIN)) {
                return PLAIN;
            }
            if (isWord(WORD_MEADOW)) {
                return MEADOW;
            }
            if (isWord(WORD_CELLAR)) {
                return CELLAR;
            }
            return isWord(WORD_BRIDGE) ? BRIDGE : NONE;
        }

        private boolean readLine() {
            int line = lineOfWord();
            if (line == NONE) {
                return fail(FAULT_FORM);
            }
            boolean begun = draft.flow > 0;
            if (line == LINE_RIVER && begun) {
                return fail(FAULT_AGAIN);
            }
            if (isFull(line)) {
                return fail(FAULT_MANY);
            }
            if (line != LINE_RIVER && !begun) {
                return fail(FAULT_LACKS);
            }
            next();
            switch (line) {
                case LINE_RIVER: return readRiver();
                case LINE_REACH: return readReach();
                case LINE_ROPE: return readRope();
                case LINE_LOOSE: return readLoose();
                case LINE_HAND: return readHand();
                case LINE_BOAT: return readBoat();
                default: return readMud();
            }
        }

        private boolean isFull(int line) {
            switch (line) {
                case LINE_REACH: return draft.reaches >= MOST_REACHES;
                case LINE_ROPE: return draft.ropes >= MOST_ROPES;
                case LINE_HAND: return draft.hands >= MOST_HANDS;
                case LINE_BOAT: return draft.boats >= MOST_BOATS;
                default: return false;
            }
        }

        private boolean readRiver() {
            if (!readWhole(WORD_FLOW, 1, 900)) {
                return false;
            }
            draft.flow = value;
            next();
            if (!readWhole(WORD_TAPE, 2, 40)) {
                return false;
            }
            draft.tape = value;
            next();
            return true;
        }

        private boolean readReach() {
            int r = draft.reaches;
            if (!readNewName(LINE_REACH, r)) {
                return false;
            }
            int kind = kindOfWord();
            if (kind == NONE) {
                return fail(FAULT_FORM);
            }
            draft.kind[r] = kind;
            next();
            if (!readWhole(WORD_WIDE, 3, 40)) {
                return false;
            }
            draft.wide[r] = value;
            next();
            if (!readWhole(WORD_BANK, 1, 99)) {
                return false;
            }
            draft.bank[r] = value;
            next();
            draft.reaches++;
            return true;
        }

        private boolean readRope() {
            int k = draft.ropes;
            if (!readNewName(LINE_ROPE, k)) {
                return false;
            }
            if (!isWord(WORD_AT)) {
                return fail(FAULT_FORM);
            }
            next();
            int r = usedName(LINE_REACH);
            if (r == NONE) {
                return false;
            }
            draft.ropeAt[k] = r;
            next();
            if (!readWhole(WORD_PULLS, 1, 9)) {
                return false;
            }
            draft.pulls[k] = value;
            next();
            if (!readWhole(WORD_BEARS, 1, 99)) {
                return false;
            }
            draft.bears[k] = value;
            next();
            draft.ropes++;
            return true;
        }

        private boolean readLoose() {
            int k = usedName(LINE_ROPE);
            if (k == NONE) {
                return false;
            }
            if (isIn(draft.loose, k)) {
                return fail(FAULT_AGAIN);
            }
            draft.loose |= 1 << k;
            next();
            return true;
        }

        private boolean readHand() {
            int h = draft.hands;
            if (!readNewName(LINE_HAND, h) || !readWhole(WORD_STRONG, 1, 99)) {
                return false;
            }
            draft.strong[h] = value;
            next();
            draft.hands++;
            return true;
        }

        private boolean readBoat() {
            int b = draft.boats;
            if (!readNewName(LINE_BOAT, b) || !readWhole(WORD_WIDE, 1, 30)) {
                return false;
            }
            draft.boatWide[b] = value;
            next();
            if (!readWhole(WORD_DEEP, 0, 60)) {
                return false;
            }
            draft.boatDeep[b] = value;
            next();
            draft.boats++;
            return true;
        }

        private boolean readMud() {
            int r = usedName(LINE_REACH);
            if (r == NONE) {
                return false;
            }
            if (draft.mud[r] != NONE) {
                return fail(FAULT_AGAIN);
            }
            next();
            if (!readWhole(WORD_DEEP, 0, 900)) {
                return false;
            }
            draft.mud[r] = value;
            draft.muds++;
            next();
            return true;
        }

        // ---- parts of LINES

        /** The WHOLE stays the present TOKEN, so that its value is there for the LINE. */
        private boolean readWhole(long word, int least, int most) {
            if (!isWord(word)) {
                return fail(FAULT_FORM);
            }
            next();
            if (sort != TOKEN_WHOLE) {
                return fail(FAULT_FORM);
            }
            return value >= least && value <= most || fail(FAULT_BOUNDS);
        }

        private boolean readNewName(int line, int number) {
            if (!isName()) {
                return fail(FAULT_FORM);
            }
            if (nameIndex() != NONE || named >= MOST_NAMES) {
                return fail(FAULT_AGAIN);
            }
            names[named] = code;
            nameLines[named] = line;
            nameNumbers[named] = number;
            named++;
            next();
            return true;
        }

        /** The NAME stays the present TOKEN, since a FAULT of the LINE may stand at it. */
        private int usedName(int line) {
            if (!isName()) {
                fail(FAULT_FORM);
                return NONE;
            }
            int index = nameIndex();
            if (index == NONE || nameLines[index] != line) {
                fail(FAULT_UNTOLD);
                return NONE;
            }
            return nameNumbers[index];
        }

        private boolean isName() {
            return sort == TOKEN_WORD && lineOfWord() == NONE;
        }

        private int nameIndex() {
            for (int i = 0; i < named; i++) {
                if (names[i] == code) {
                    return i;
                }
            }
            return NONE;
        }
    }

    /** How wide and deep the river is with some ropes LACED by some flow. */
    private static final class Water {
        final int[] width = new int[MOST_REACHES];
        final int[] comes = new int[MOST_REACHES];
        final int[] depth = new int[MOST_REACHES];
        final int[] spill = new int[MOST_REACHES];
        final int[] harmAt = new int[MOST_REACHES];
        int below;
        int allHarm;
        int spilling;

        void run(River river, int laced, int flow) {
            narrow(river, laced);
            pour(river, flow);
        }

        void narrow(River river, int laced) {
            for (int r = 0; r < river.reaches; r++) {
                width[r] = river.wide[r];
            }
            for (int k = 0; k < river.ropes; k++) {
                if (isIn(laced, k)) {
                    width[river.ropeAt[k]] -= river.pulls[k];
                }
            }
            for (int r = 0; r < river.reaches; r++) {
                width[r] = Math.max(1, width[r]);
            }
        }

        void narrowMore(int r, int pull) {
            width[r] = Math.max(1, width[r] - pull);
        }

        void pour(River river, int flow) {
            below = flow;
            allHarm = 0;
            spilling = 0;
            for (int r = 0; r < river.reaches; r++) {
                pourInto(river, r);
            }
        }

        private void pourInto(River river, int r) {
            int wide = Math.max(1, width[r]);
            comes[r] = below;
            depth[r] = below / wide;
            spill[r] = Math.max(0, depth[r] - river.bank[r]) * wide;
            harmAt[r] = harmBySpill(river.kind[r], spill[r]);
            below -= spill[r];
            if (river.kind[r] == MEADOW) {
                below += spill[r] / 2;
            }
            if (spill[r] > 0) {
                spilling |= 1 << r;
            }
            allHarm += harmAt[r];
        }

        private static int harmBySpill(int kind, int spilt) {
            switch (kind) {
                case MEADOW: return 0;
                case CELLAR: return 2 * spilt;
                case BRIDGE: return spilt > 0 ? spilt + BRIDGE_HARM : 0;
                default: return spilt;
            }
        }

        int tooWide(River river) {
            int bits = 0;
            for (int r = 0; r < river.reaches; r++) {
                if (width[r] > river.tape) {
                    bits |= 1 << r;
                }
            }
            return bits;
        }

        /** How much deeper the water could be for a rope to hold; below 0 it BURSTS. */
        int slack(River river, State state, int k) {
            return river.bears[k] - state.wear[k] - depth[river.ropeAt[k]];
        }

        int bursting(River river, State state, int laced) {
            int bits = 0;
            for (int k = 0; k < river.ropes; k++) {
                if (isIn(laced, k) && slack(river, state, k) < 0) {
                    bits |= 1 << k;
                }
            }
            return bits;
        }

        /**
         * The least flow by which DEPTH is above a limit. Each flow is tried, since a reach
         * ahead that SPILLS lets less go on by more flow; those that are too little even if
         * all of it comes are left out.
         */
        int leastFlow(River river, int reach, int limit) {
            for (int flow = Math.max(1, (limit + 1) * width[reach]); flow <= MOST_FLOW; flow++) {
                pour(river, flow);
                if (depth[reach] > limit) {
                    return flow;
                }
            }
            return NOTHING;
        }

        /** As long as it SPILLS nowhere, the whole flow comes into each reach. */
        int safest(River river) {
            int most = MOST_FLOW;
            for (int r = 0; r < river.reaches; r++) {
                most = Math.min(most, (river.bank[r] + 1) * width[r] - 1);
            }
            return most;
        }
    }

    /** Which ropes to lace; sets go up by their bits, so the first of like ones has the least. */
    private static final class Lacer {
        private final Water water = new Water();
        int count;
        int fewest;
        int shortest;
        int shortestSum;
        int changed;
        int changedHarm;

        void search(River river, State now) {
            count = 0;
            fewest = NOTHING;
            shortest = NOTHING;
            shortestSum = NOTHING;
            for (int set = 0; set < 1 << river.ropes; set++) {
                if ((set & now.burst) == 0 && holds(river, now, set)) {
                    take(river, set);
                }
            }
        }

        private boolean holds(River river, State now, int set) {
            water.run(river, set, now.flow);
            return water.tooWide(river) == 0 && water.spilling == 0
                    && water.bursting(river, now, set) == 0;
        }

        private void take(River river, int set) {
            if (count == 0 || Integer.bitCount(set) < Integer.bitCount(fewest)) {
                fewest = set;
            }
            int sum = lacedWidths(river, set);
            if (count == 0 || sum < shortestSum) {
                shortest = set;
                shortestSum = sum;
            }
            count++;
        }

        private int lacedWidths(River river, int set) {
            int sum = 0;
            for (int r = 0; r < river.reaches; r++) {
                if (hasLaced(river, set, r)) {
                    sum += water.width[r];
                }
            }
            return sum;
        }

        private static boolean hasLaced(River river, int set, int r) {
            for (int k = 0; k < river.ropes; k++) {
                if (isIn(set, k) && river.ropeAt[k] == r) {
                    return true;
                }
            }
            return false;
        }

        void searchChange(River river, State now) {
            changed = NOTHING;
            changedHarm = NOTHING;
            water.run(river, now.laced, now.flow);
            int least = water.allHarm;
            for (int k = 0; k < river.ropes; k++) {
                if (!isIn(now.burst, k)) {
                    water.run(river, now.laced ^ (1 << k), now.flow);
                    if (water.allHarm < least) {
                        least = water.allHarm;
                        changed = k;
                        changedHarm = least;
                    }
                }
            }
        }
    }

    /** What boats and hands can do. */
    private static final class Wharf {
        private final Water water = new Water();

        int passedNow(River river, State now, int b) {
            water.run(river, now.laced, now.flow);
            return passed(river, b);
        }

        private int passed(River river, int b) {
            int bits = 0;
            for (int r = 0; r < river.reaches; r++) {
                if (water.width[r] >= river.boatWide[b] && water.depth[r] >= river.boatDeep[b]) {
                    bits |= 1 << r;
                }
            }
            return bits;
        }

        int farthest(River river, State now) {
            water.run(river, now.laced, now.flow);
            int first = NOTHING;
            int most = NONE;
            for (int b = 0; b < river.boats; b++) {
                int reaches = Integer.bitCount(passed(river, b));
                if (reaches > most) {
                    most = reaches;
                    first = b;
                }
            }
            return first;
        }

        int easedFor(River river, State now, int b) {
            int every = (1 << river.reaches) - 1;
            int fewest = NOTHING;
            for (int set = 0; set < 1 << river.ropes; set++) {
                if ((set & ~now.laced) == 0 && isFewer(set, fewest)) {
                    water.run(river, now.laced & ~set, now.flow);
                    if (passed(river, b) == every) {
                        fewest = set;
                    }
                }
            }
            return fewest;
        }

        int fewestHands(River river, int need) {
            int fewest = NOTHING;
            for (int set = 0; set < 1 << river.hands; set++) {
                if (isFewer(set, fewest) && strength(river, set) >= need) {
                    fewest = set;
                }
            }
            return fewest;
        }

        private static boolean isFewer(int set, int fewest) {
            return fewest == NOTHING || Integer.bitCount(set) < Integer.bitCount(fewest);
        }

        private static int strength(River river, int set) {
            int sum = 0;
            for (int h = 0; h < river.hands; h++) {
                if (isIn(set, h)) {
                    sum += river.strong[h];
                }
            }
            return sum;
        }
    }

    /** Which ropes the mud says were let out, and where to measure next. */
    private static final class MudBook {
        private final Water water = new Water();
        /** DEPTHS by each set that fits, kept so that choosing a reach pours nothing again. */
        final int[] depths = new int[MOST_SETS * MOST_REACHES];
        final int[] tally = new int[MOST_FLOW + 1];
        int count;
        int inSome;
        int inAll;
        int asked;
        int left;

        void search(River river, State now) {
            count = 0;
            inSome = 0;
            inAll = now.laced;
            for (int set = 0; set < 1 << river.ropes; set++) {
                if ((set & ~now.laced) == 0) {
                    water.run(river, now.laced & ~set, now.flow);
                    if (isAsMud(river)) {
                        take(river, set);
                    }
                }
            }
            if (count == 0) {
                inAll = 0;
            }
        }

        private boolean isAsMud(River river) {
            for (int r = 0; r < river.reaches; r++) {
                if (river.mud[r] != NONE && river.mud[r] != water.depth[r]) {
                    return false;
                }
            }
            return true;
        }

        private void take(River river, int set) {
            for (int r = 0; r < river.reaches; r++) {
                depths[count * MOST_REACHES + r] = water.depth[r];
            }
            inSome |= set;
            inAll &= set;
            count++;
        }

        void choose(River river) {
            asked = NOTHING;
            left = NOTHING;
            for (int r = 0; r < river.reaches && count > 0; r++) {
                if (river.mud[r] == NONE) {
                    int most = mostAlike(r);
                    if (asked == NOTHING || most < left) {
                        asked = r;
                        left = most;
                    }
                }
            }
        }

        /** How many of the sets that fit are left, if the likeliest DEPTH were told. */
        private int mostAlike(int r) {
            int most = 0;
            for (int i = 0; i < count; i++) {
                int depth = depths[i * MOST_REACHES + r];
                tally[depth]++;
                most = Math.max(most, tally[depth]);
            }
            for (int i = 0; i < count; i++) {
                tally[depths[i * MOST_REACHES + r]] = 0;
            }
            return most;
        }
    }

    /** Two parishes that pull at the first and the last reach of a river of two or more. */
    private static final class Parishes {
        private static final int PULLS = MOST_PULL + 1;

        private final Water water = new Water();
        final int[] ones = new int[PULLS * PULLS];
        final int[] others = new int[PULLS * PULLS];
        int oneHas;
        int otherHas;
        int count;
        int first;

        void pull(River river, State now, int one, int other) {
            int last = Math.max(0, river.reaches - 1);
            water.narrow(river, now.laced);
            water.narrowMore(0, one);
            water.narrowMore(last, other);
            water.pour(river, now.flow);
            oneHas = 3 * one - water.harmAt[0];
            otherHas = 3 * other - water.harmAt[last];
        }

        void search(River river, State now) {
            for (int one = 0; one < PULLS; one++) {
                for (int other = 0; other < PULLS; other++) {
                    pull(river, now, one, other);
                    ones[one * PULLS + other] = oneHas;
                    others[one * PULLS + other] = otherHas;
                }
            }
            count = 0;
            first = NOTHING;
            for (int one = 0; one < PULLS; one++) {
                for (int other = 0; other < PULLS; other++) {
                    if (isRest(one, other)) {
                        first = count == 0 ? 10 * one + other : first;
                        count++;
                    }
                }
            }
        }

        private boolean isRest(int one, int other) {
            int here = one * PULLS + other;
            for (int pull = 0; pull < PULLS; pull++) {
                if (ones[pull * PULLS + other] > ones[here]
                        || others[one * PULLS + pull] > others[here]) {
                    return false;
                }
            }
            return true;
        }
    }

    /** YEARS by DRAWS. */
    private static final class Almanac {
        private final Water water = new Water();
        final State trial = new State();
        int harmDone;
        int floodYear;

        /** HARM of all; the water is left as it is poured then, behind the bursting. */
        int passYear(River river, State state) {
            state.seed = (75 * state.seed + 74) % 65537;
            state.flow = Math.max(1, river.flow + state.seed % 61 - 30);
            water.run(river, state.laced, state.flow);
            int bursting = water.bursting(river, state, state.laced);
            state.laced &= ~bursting;
            state.burst |= bursting;
            water.run(river, state.laced, state.flow);
            for (int k = 0; k < river.ropes; k++) {
                if (isIn(state.laced, k)) {
                    state.wear[k]++;
                }
            }
            return water.allHarm;
        }

        void pass(River river, State now, int seed, int years) {
            trial.copy(now);
            trial.seed = seed;
            harmDone = 0;
            floodYear = 0;
            for (int year = 1; year <= years; year++) {
                harmDone += passYear(river, trial);
                if (floodYear == 0 && water.spilling != 0) {
                    floodYear = year;
                }
            }
        }

        int burstYear(River river, State now, int seed, int k) {
            trial.copy(now);
            trial.seed = seed;
            for (int year = 1; year <= MOST_YEARS; year++) {
                passYear(river, trial);
                if (isIn(trial.burst, k)) {
                    return year;
                }
            }
            return 0;
        }
    }
}
