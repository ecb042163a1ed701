import java.util.Arrays;

/**
 * A tester of memory marches: kinds of faults, marches over the addresses, what they catch, the least
 * march for some kinds, and a live memory with a fault in it. The promises are in shared/DOC.md.
 *
 * A fault touches its cells v and a alone, and a march writes to each address ahead of its first read
 * there, so no READ of another cell can fail. That is why a placement is judged by these two cells and by
 * which of them has the lower address, whatever the size of the memory.
 */
public final class MarchTester {
    public static final int NONE = -1;

    private static final int ABSENT = -2;
    private static final int UNKNOWN = -3;
    private static final int MOST_KINDS = 8;
    private static final int MOST_MARCHES = 6;
    private static final int MOST_CELLS = 6;
    private static final int KIND_BYTES = 100;
    private static final int CHOICES = 8;
    private static final int MOST_DRAWN = 50;
    private static final int LOGGED = 60;

    /** What is done to a cell: 0 READ, 1 write 0, 2 write 1. */
    private static final int READ = 0;

    /** The two cells of a fault; of a SINGLE kind the aggressor is any sound cell. */
    private static final int VICTIM = 0;
    private static final int AGGRESSOR = 1;

    private final Tape tape = new Tape();
    private final Kind[] kinds = new Kind[MOST_KINDS];
    private int kindCount = 0;
    private final March[] marches = new March[MOST_MARCHES];
    private int marchCount = 0;
    private final Memory live = new Memory();
    private final History history = new History();
    private final Trial trial = new Trial();
    /** ON TWO of a march and a kind never changes: 0 not known yet, else one more than it. */
    private final int[] knownOnTwo = new int[MOST_MARCHES * MOST_KINDS];
    /** Made when first asked for, as many objects never need them. */
    private Suspects suspects = null;
    private Search search = null;
    private int drawState = 0;

    public MarchTester() {
        live.begin(4);
    }

    // ---- the texts

    public int feed(int a, int b, int c, int d, int e) {
        if (tape.length > Tape.ROOM - 20) {
            return NONE;
        }
        tape.append(a);
        tape.append(b);
        tape.append(c);
        tape.append(d);
        tape.append(e);
        return tape.length;
    }

    public int end(int n) {
        if (n < 0 || n > tape.length) {
            return NONE;
        }
        tape.length = n;
        return n;
    }

    public int kind() {
        if (kindCount >= MOST_KINDS || tape.length > KIND_BYTES) {
            return NONE;
        }
        Kind told = new Kind();
        told.scan(tape);
        tape.length = 0;
        if (tape.fault != 0) {
            return -2 - tape.fault;
        }
        told.prepare();
        kinds[kindCount] = told;
        kindCount++;
        return kindCount - 1;
    }

    public int march() {
        if (marchCount >= MOST_MARCHES) {
            return NONE;
        }
        March told = new March();
        told.scan(tape);
        tape.length = 0;
        if (tape.fault != 0) {
            return -2 - tape.fault;
        }
        marches[marchCount] = told;
        marchCount++;
        return marchCount - 1;
    }

    public int ofKind(int kind, int what) {
        Kind told = kindAt(kind);
        if (told == null) {
            return NONE;
        }
        switch (what) {
            case 0: return told.rules;
            case 1: return told.pair ? 1 : 0;
            case 2: return told.placements(live.size);
            case 3: return told.pair ? 2 * (live.size - 1) : live.size;
            default: return NONE;
        }
    }

    public int ofMarch(int march, int what) {
        March told = marchAt(march);
        if (told == null) {
            return NONE;
        }
        switch (what) {
            case 0: return told.elements;
            case 1: return told.opTotal;
            case 2: return told.readTotal;
            case 3: return told.anys;
            case 4: return told.sound;
            default: return NONE;
        }
    }

    public int element(int march, int element, int what) {
        March told = marchAt(march);
        if (told == null || element < 0 || element >= told.elements) {
            return NONE;
        }
        if (what == 0) {
            return Math.min(told.wayOf(element), March.ANY);
        }
        if (what == 1) {
            return told.opsOf(element);
        }
        if (what < 2 || what >= 2 + told.opsOf(element)) {
            return NONE;
        }
        return told.opAt(element, what - 2);
    }

    // ---- what a march catches

    public int caught(int march, int kind, boolean near) {
        Kind told = kindAt(kind);
        if (told == null || marchAt(march) == null) {
            return NONE;
        }
        int both = bothOrders(march, kind);
        int found = 0;
        for (int p = 0; p < told.placements(live.size); p++) {
            if (isAsked(told, p, near) && isCaught(told, p, both)) {
                found++;
            }
        }
        return found;
    }

    public int escape(int march, int kind, boolean near, int what) {
        Kind told = kindAt(kind);
        March walked = marchAt(march);
        if (told == null || walked == null || what < 0 || what > 3) {
            return NONE;
        }
        int both = bothOrders(march, kind);
        for (int p = 0; p < told.placements(live.size); p++) {
            if (isAsked(told, p, near) && !isCaught(told, p, both)) {
                return ofEscape(told, walked, p, what);
            }
        }
        return ABSENT;
    }

    public int onTwo(int march, int kind) {
        if (kindAt(kind) == null || marchAt(march) == null) {
            return NONE;
        }
        return bothOrders(march, kind);
    }

    public int covers(int march) {
        if (marchAt(march) == null) {
            return NONE;
        }
        int bits = 0;
        for (int k = 0; k < kindCount; k++) {
            // two cells or more have a placement of either order, so all are caught if both orders are
            if (bothOrders(march, k) == 3) {
                bits |= 1 << k;
            }
        }
        return bits;
    }

    public int least(int kinds) {
        if (!areKinds(kinds)) {
            return NONE;
        }
        if (kinds == 0) {
            return 0;
        }
        Search made = madeSearch();
        made.solve(kinds, this.kinds);
        return made.answerOf(kinds);
    }

    public int walk(int kinds, int k) {
        if (!areKinds(kinds) || kinds == 0 || k < NONE) {
            return NONE;
        }
        Search made = madeSearch();
        made.solve(kinds, this.kinds);
        int ops = made.answerOf(kinds);
        if (ops <= 0) {
            return NONE;
        }
        if (k == NONE) {
            return 1 + made.walkedOp(kinds, ops - 1) / 100;
        }
        return k < ops ? made.walkedOp(kinds, k) : ABSENT;
    }

    // ---- the live memory

    public boolean memory(int n) {
        if (n < 2 || n > MOST_CELLS) {
            return false;
        }
        live.begin(n);
        history.forget();
        return true;
    }

    public boolean put(int kind, int a, int v) {
        Kind told = kindAt(kind);
        if (told == null || !live.hasCell(v)) {
            return false;
        }
        boolean fitting = told.pair ? live.hasCell(a) && a != v : a == NONE;
        if (!fitting) {
            return false;
        }
        history.keep(live);
        live.insert(told, kind, a, v);
        return true;
    }

    public boolean heal() {
        if (live.fault == null) {
            return false;
        }
        history.keep(live);
        live.insert(null, NONE, NONE, NONE);
        return true;
    }

    public int tell(int contents) {
        if (contents < 0 || contents >= 1 << live.size) {
            return NONE;
        }
        history.keep(live);
        int before = live.cells;
        live.fill(contents);
        return before;
    }

    public int write(int address, int d) {
        if (!live.hasCell(address) || d < 0 || d > 1) {
            return NONE;
        }
        history.keep(live);
        live.operate(address, 1 + d);
        return live.cells;
    }

    public int read(int address) {
        if (!live.hasCell(address)) {
            return NONE;
        }
        history.keep(live);
        return live.operate(address, READ);
    }

    public int run(int march, int choice) {
        March walked = marchAt(march);
        if (walked == null || choice < 0 || choice >= CHOICES) {
            return NONE;
        }
        history.keep(live);
        live.goThrough(walked, march, choice);
        return live.failed;
    }

    public int layout(int one, int other) {
        if (!live.hasCell(one) || !live.hasCell(other) || one == other) {
            return NONE;
        }
        history.keep(live);
        live.exchange(one, other);
        return live.cellOf(one);
    }

    public int undo() {
        return history.restore(live) ? history.size : NONE;
    }

    public int cell(int k, int what) {
        if (!live.hasCell(k)) {
            return NONE;
        }
        switch (what) {
            case 0: return live.cellOf(k);
            case 1: return live.cells >> k & 1;
            default: return NONE;
        }
    }

    public int log(int k, int what) {
        if (k < 0 || what < 0 || what > 1) {
            return NONE;
        }
        if (k >= live.logged) {
            return ABSENT;
        }
        return what == 0 ? live.loggedNumber(k) : live.loggedAddress(k);
    }

    // ---- which fault it can be

    public int fits(int what) {
        if (what < 0 || what > 3 || marchAt(live.runMarch) == null) {
            return NONE;
        }
        Suspects found = gatheredSuspects();
        if (what == 0) {
            return found.size;
        }
        if (found.size == 0) {
            return ABSENT;
        }
        if (what == 1) {
            return found.kindOf(0);
        }
        Kind told = kindAt(found.kindOf(0));
        if (told == null) {
            return ABSENT;
        }
        int placement = found.placementOf(0);
        return what == 2 ? told.aggressorOf(placement, live.size) : told.victimOf(placement, live.size);
    }

    public int parts(int march) {
        if (marchAt(march) == null || marchAt(live.runMarch) == null) {
            return NONE;
        }
        return greatestPart(gatheredSuspects(), march);
    }

    public int ask() {
        if (marchAt(live.runMarch) == null) {
            return NONE;
        }
        Suspects found = gatheredSuspects();
        int best = 0;
        int bestPart = greatestPart(found, 0);
        for (int m = 1; m < marchCount; m++) {
            int part = greatestPart(found, m);
            if (part < bestPart) {
                best = m;
                bestPart = part;
            }
        }
        return best;
    }

    // ---- faults by draws

    public int draws(int x) {
        if (x < 0) {
            return NONE;
        }
        int before = drawState;
        drawState = x;
        return before;
    }

    public int drawn(int march, int m) {
        March walked = marchAt(march);
        if (walked == null || m < 1 || m > MOST_DRAWN || kindCount == 0) {
            return NONE;
        }
        int before = drawState;
        int found = 0;
        for (int i = 0; i < m; i++) {
            Kind told = kindAt(draw(kindCount));
            if (told != null) {
                int placement = draw(told.placements(live.size));
                int contents = draw(1 << live.size);
                int choice = draw(CHOICES);
                aim(told, placement);
                if (trial.go(told, walked, stateIn(told, placement, contents), choice) > 0) {
                    found++;
                }
            }
        }
        drawState = before;
        return found;
    }

    public int count(int what) {
        switch (what) {
            case 0: return live.size;
            case 1: return kindCount;
            case 2: return marchCount;
            case 3: return live.faultKind;
            case 4: return live.a;
            case 5: return live.v;
            case 6: return live.cells;
            case 7: return live.failed;
            case 8: return history.size;
            case 9: return drawState;
            case 10: return tape.length;
            default: return NONE;
        }
    }

    // ---- what the calls share

    private Kind kindAt(int k) {
        return k >= 0 && k < kindCount && k < MOST_KINDS ? kinds[k] : null;
    }

    private March marchAt(int m) {
        return m >= 0 && m < marchCount && m < MOST_MARCHES ? marches[m] : null;
    }

    private boolean areKinds(int bits) {
        return bits >= 0 && bits < 1 << kindCount;
    }

    private Search madeSearch() {
        if (search == null) {
            search = new Search();
        }
        return search;
    }

    private int draw(int k) {
        long next = (drawState * 1103515245L + 12345L) & 0x7fffffffL;
        drawState = (int) next;
        return k < 1 ? 0 : drawState / 65536 % k;
    }

    private boolean isAsked(Kind told, int placement, boolean near) {
        if (!near || !told.pair) {
            return true;
        }
        int apart = told.aggressorOf(placement, live.size) - told.victimOf(placement, live.size);
        return apart == 1 || apart == -1;
    }

    /** 1 if it is caught with a at the lower address, and 2 if with v there: ON TWO, and so of N CELLS, too. */
    private int bothOrders(int march, int kind) {
        Kind told = kindAt(kind);
        March walked = marchAt(march);
        if (told == null || walked == null) {
            return NONE;
        }
        int slot = march * MOST_KINDS + kind;
        if (knownOnTwo[slot] == 0) {
            trial.place(2, 0, 1);
            int answer = isAlwaysSeen(told, walked) ? 1 : 0;
            trial.place(2, 1, 0);
            answer += isAlwaysSeen(told, walked) ? 2 : 0;
            knownOnTwo[slot] = 1 + answer;
        }
        return knownOnTwo[slot] - 1;
    }

    private boolean isAlwaysSeen(Kind told, March walked) {
        for (int state = 0; state < 4; state++) {
            if (firstBlindChoice(told, walked, state) != NONE) {
                return false;
            }
        }
        return true;
    }

    private int firstBlindChoice(Kind told, March walked, int state) {
        for (int choice = 0; choice < walked.choices(); choice++) {
            if (trial.go(told, walked, state, choice) == 0) {
                return choice;
            }
        }
        return NONE;
    }

    private boolean isCaught(Kind told, int placement, int both) {
        aim(told, placement);
        return (both & (trial.aggressorAt < trial.victimAt ? 1 : 2)) != 0;
    }

    /** Sets the trial to the addresses of the placement's cells in the live memory's LAYOUT. */
    private void aim(Kind told, int placement) {
        int victimAt = live.addressOf(told.victimOf(placement, live.size));
        int aggressorAt = victimAt == 0 ? 1 : 0;
        if (told.pair) {
            aggressorAt = live.addressOf(told.aggressorOf(placement, live.size));
        }
        trial.place(live.size, aggressorAt, victimAt);
    }

    private int stateIn(Kind told, int placement, int contents) {
        int state = contents >> told.victimOf(placement, live.size) & 1;
        if (told.pair) {
            state |= (contents >> told.aggressorOf(placement, live.size) & 1) << 1;
        }
        return state;
    }

    private int ofEscape(Kind told, March walked, int placement, int what) {
        int a = told.aggressorOf(placement, live.size);
        int v = told.victimOf(placement, live.size);
        if (what == 0) {
            return v;
        }
        if (what == 1) {
            return a;
        }
        aim(told, placement);
        // the other cells change nothing, so the first contents have them 0
        int touched = 1 << v | (told.pair ? 1 << a : 0);
        for (int contents = 0; contents <= touched; contents++) {
            if ((contents & ~touched) == 0) {
                int choice = firstBlindChoice(told, walked, stateIn(told, placement, contents));
                if (choice != NONE) {
                    return what == 2 ? contents : choice;
                }
            }
        }
        return ABSENT;
    }

    private Suspects gatheredSuspects() {
        if (suspects == null) {
            suspects = new Suspects();
        }
        Suspects found = suspects;
        found.size = 0;
        March walked = marchAt(live.runMarch);
        for (int k = 0; k < kindCount; k++) {
            Kind told = kindAt(k);
            if (told != null && walked != null) {
                gatherOf(found, told, k, walked);
            }
        }
        return found;
    }

    private void gatherOf(Suspects found, Kind told, int k, March walked) {
        for (int p = 0; p < told.placements(live.size); p++) {
            aim(told, p);
            if (couldHaveLogged(told, walked)) {
                found.add(k, p);
            }
        }
    }

    private boolean couldHaveLogged(Kind told, March walked) {
        int states = told.pair ? 4 : 2;
        for (int state = 0; state < states; state++) {
            trial.go(told, walked, state, live.runChoice);
            if (live.hasLogOf(trial)) {
                return true;
            }
        }
        return false;
    }

    private int greatestPart(Suspects found, int march) {
        March walked = marchAt(march);
        found.partCount = 0;
        int greatest = 0;
        for (int i = 0; i < found.size; i++) {
            Kind told = kindAt(found.kindOf(i));
            if (told != null && walked != null) {
                aim(told, found.placementOf(i));
                trial.go(told, walked, 0, 0);
                greatest = Math.max(greatest, found.partWith(trial));
            }
        }
        return greatest;
    }

    /** The bytes that a text is told by, and a reader of them that keeps the first fault. */
    private static final class Tape {
        static final int ROOM = 200;
        private static final int BLANK = 32;

        final byte[] bytes = new byte[ROOM];
        int length = 0;
        int place = 0;
        /** 0 while there is none. */
        int fault = 0;

        void append(int number) {
            for (int shift = 24; shift >= 0; shift -= 8) {
                if (length < ROOM) {
                    bytes[length] = (byte) (number >> shift);
                    length++;
                }
            }
        }

        void rewind() {
            place = 0;
            fault = 0;
        }

        int byteAt(int at) {
            return at >= 0 && at < length && at < ROOM ? bytes[at] & 255 : NONE;
        }

        void blame(int at, int why) {
            if (fault == 0) {
                fault = 8 * at + why;
            }
        }

        /** Where the next byte that is no blank stands, or the end. */
        int nextPlace() {
            while (place < length && byteAt(place) == BLANK) {
                place++;
            }
            return place;
        }

        boolean isOver() {
            return fault != 0 || nextPlace() >= length;
        }

        /** Which of these signs comes next; any other one is a fault, and behind a fault nothing comes. */
        int take(String signs) {
            int next = byteAt(nextPlace());
            int which = fault == 0 && next != NONE ? signs.indexOf((char) next) : NONE;
            if (which < 0) {
                blame(place, 1);
                return NONE;
            }
            place++;
            return which;
        }

        /** The small letters that come next, as far as these go on, are this word. */
        boolean takeWord(String word) {
            int from = nextPlace();
            int size = word.length();
            for (int i = 0; i < size; i++) {
                if (byteAt(from + i) != word.charAt(i)) {
                    return false;
                }
            }
            int behind = byteAt(from + size);
            if (behind >= 'a' && behind <= 'z') {
                return false;
            }
            place = from + size;
            return true;
        }
    }

    /** A kind of fault: its rules as told, and what they make of the two cells' four states. */
    private static final class Kind {
        private static final int MOST_RULES = 4;
        private static final String LETTERS = "vasknmb";
        private static final String BITS = "01";
        private static final String EFFECTS = "01x";
        private static final int FIRST_LONER = 4;
        private static final int V_WRITE = 0;
        private static final int A_WRITE = 1;
        private static final int STATE = 2;
        private static final int STUCK = 3;
        private static final int NO_CELL = 4;
        private static final int OTHER_CELL = 5;
        private static final int BOTH_CELLS = 6;
        private static final int V_READ = 7;
        private static final int A_READ = 8;

        int rules = 0;
        boolean pair = false;
        private final int[] form = new int[MOST_RULES];
        /** What the cell has for the rule to hold, and what is written then. */
        private final int[] from = new int[MOST_RULES];
        private final int[] written = new int[MOST_RULES];
        /** What v is then (2: the other one), and what a READ tells. */
        private final int[] becomes = new int[MOST_RULES];
        private final int[] told = new int[MOST_RULES];
        /** By cell, act and state (v, and twice a): the state then, and four times what is read. */
        private final int[] outcome = new int[24];
        private final int[] settled = new int[4];

        void scan(Tape text) {
            text.rewind();
            scanRule(text);
            for (int more = 0; more < MOST_RULES && !text.isOver(); more++) {
                text.take(",");
                scanRule(text);
            }
        }

        private void scanRule(Tape text) {
            int at = text.nextPlace();
            int letter = text.take(LETTERS);
            if (letter == NONE) {
                return;
            }
            if (rules >= MOST_RULES) {
                text.blame(at, 2);
                return;
            }
            if (rules > 0 && (letter >= FIRST_LONER || form[0] == NO_CELL || form[0] == OTHER_CELL
                    || form[0] == BOTH_CELLS)) {
                text.blame(at, 3);
                return;
            }
            form[rules] = letter;
            scanBody(text, letter);
            pair = pair || letter == A_WRITE || letter == STATE || letter == OTHER_CELL || letter == BOTH_CELLS;
            rules++;
        }

        private void scanBody(Tape text, int letter) {
            if (letter == OTHER_CELL) {
                return;
            }
            boolean onOp = letter == V_WRITE || letter == A_WRITE;
            boolean reading = false;
            if (onOp || letter == STATE) {
                from[rules] = text.take(BITS);
            }
            if (onOp) {
                reading = text.take("wr") == 1;
                if (reading) {
                    form[rules] = letter == V_WRITE ? V_READ : A_READ;
                } else {
                    written[rules] = text.take(BITS);
                }
            }
            text.take(":");
            becomes[rules] = text.take(letter == A_WRITE ? EFFECTS : BITS);
            if (reading && letter == V_WRITE) {
                text.take("/");
                told[rules] = text.take(BITS);
            }
        }

        void prepare() {
            for (int state = 0; state < 4; state++) {
                settled[state] = settle(state);
                for (int act = 0; act < 3; act++) {
                    outcome[act * 4 + state] = operate(VICTIM, act, state);
                    outcome[12 + act * 4 + state] = operate(AGGRESSOR, act, state);
                }
            }
        }

        int outcomeOf(int cell, int act, int state) {
            int slot = cell * 12 + act * 4 + (state & 3);
            return slot >= 0 && slot < 24 ? outcome[slot] : 0;
        }

        int settledFrom(int state) {
            return settled[state & 3];
        }

        int placements(int n) {
            return pair ? n * (n - 1) : n;
        }

        int aggressorOf(int placement, int n) {
            return pair ? placement / Math.max(1, n - 1) : NONE;
        }

        int victimOf(int placement, int n) {
            if (!pair) {
                return placement;
            }
            int others = Math.max(1, n - 1);
            int v = placement % others;
            return v < placement / others ? v : v + 1;
        }

        /** An OP at the address of a cell, which by n, m or b need not be on that cell. */
        private int operate(int cell, int act, int state) {
            if (form[0] == NO_CELL && cell == VICTIM) {
                return act == READ ? state | becomes[0] << 2 : state;
            }
            if (form[0] == OTHER_CELL) {
                return operateOne(VICTIM, act, state);
            }
            if (form[0] == BOTH_CELLS && cell == AGGRESSOR) {
                int first = operateOne(AGGRESSOR, act, state);
                int second = operateOne(VICTIM, act, first & 3);
                int either = (first | second) >> 2;
                int each = (first & second) >> 2;
                return second & 3 | (becomes[0] == 1 ? either : each) << 2;
            }
            return operateOne(cell, act, state);
        }

        private int operateOne(int cell, int act, int state) {
            return act == READ ? readOne(cell, state) : writeOne(cell, act - 1, state);
        }

        private int writeOne(int cell, int d, int state) {
            int was = state >> cell & 1;
            int then = state & ~(1 << cell) | d << cell;
            int rule = firstRule(cell == VICTIM ? V_WRITE : A_WRITE, was, d);
            return settle(affected(then, rule));
        }

        private int readOne(int cell, int state) {
            int is = state >> cell & 1;
            int rule = firstRule(cell == VICTIM ? V_READ : A_READ, is, 0);
            int read = rule != NONE && cell == VICTIM ? told[rule] : is;
            return settle(affected(state, rule)) | read << 2;
        }

        private int firstRule(int asked, int was, int d) {
            for (int r = 0; r < rules && r < MOST_RULES; r++) {
                if (form[r] == asked && from[r] == was && written[r] == d) {
                    return r;
                }
            }
            return NONE;
        }

        private int affected(int state, int rule) {
            if (rule < 0 || rule >= MOST_RULES) {
                return state;
            }
            return becomes[rule] == 2 ? state ^ 1 : state & 2 | becomes[rule];
        }

        private int settle(int state) {
            int then = affected(state, firstRule(STUCK, 0, 0));
            for (int r = 0; r < rules && r < MOST_RULES; r++) {
                if (form[r] == STATE && from[r] == then >> 1) {
                    then = affected(then, r);
                }
            }
            return then;
        }
    }

    /** A march: its elements, and how many of everything. */
    private static final class March {
        static final int ANY = 2;
        /** OPS are 0 r 0, 1 r 1, 2 w 0, 3 w 1. */
        static final int WRITES = 2;
        private static final int MOST_ELEMENTS = 8;
        private static final int MOST_OPS = 6;
        private static final int MOST_ANYS = 3;

        int elements = 0;
        int opTotal = 0;
        int readTotal = 0;
        int anys = 0;
        /** What a sound memory has behind it. */
        int sound = NONE;
        /** 0 up, 1 down, ANY and on: the first any and on. */
        private final int[] ways = new int[MOST_ELEMENTS];
        private final int[] opCounts = new int[MOST_ELEMENTS];
        private final int[] readCounts = new int[MOST_ELEMENTS];
        private final int[] ops = new int[MOST_ELEMENTS * MOST_OPS];

        void scan(Tape text) {
            text.rewind();
            scanElement(text);
            for (int more = 0; more < MOST_ELEMENTS && !text.isOver(); more++) {
                text.take(";");
                scanElement(text);
            }
        }

        private void scanElement(Tape text) {
            int at = text.nextPlace();
            int way = scanWay(text);
            if (way == NONE) {
                text.blame(at, 1);
                return;
            }
            if (elements >= MOST_ELEMENTS || way == ANY && anys >= MOST_ANYS) {
                text.blame(at, 2);
                return;
            }
            ways[elements] = way == ANY ? ANY + anys : way;
            anys += way == ANY ? 1 : 0;
            text.take("(");
            scanOp(text);
            for (int more = 0; more < MOST_OPS && text.take(",)") == 0; more++) {
                scanOp(text);
            }
            opTotal += opCounts[elements];
            readTotal += readCounts[elements];
            elements++;
        }

        private int scanWay(Tape text) {
            if (text.takeWord("up")) {
                return 0;
            }
            if (text.takeWord("down")) {
                return 1;
            }
            return text.takeWord("any") ? ANY : NONE;
        }

        private void scanOp(Tape text) {
            int at = text.nextPlace();
            int letter = text.take("rw");
            if (letter == NONE || elements >= MOST_ELEMENTS) {
                return;
            }
            int done = opCounts[elements];
            if (done >= MOST_OPS) {
                text.blame(at, 3);
                return;
            }
            int d = text.take("01");
            if (letter == 0 && d != NONE && d != sound) {
                text.blame(at, 4);
            }
            ops[elements * MOST_OPS + done] = letter * WRITES + d;
            opCounts[elements] = done + 1;
            if (letter == 0) {
                readCounts[elements]++;
            } else {
                sound = d;
            }
        }

        int wayOf(int element) {
            return element >= 0 && element < MOST_ELEMENTS ? ways[element] : 0;
        }

        int opsOf(int element) {
            return element >= 0 && element < MOST_ELEMENTS ? opCounts[element] : 0;
        }

        int readsOf(int element) {
            return element >= 0 && element < MOST_ELEMENTS ? readCounts[element] : 0;
        }

        int opAt(int element, int k) {
            int slot = element * MOST_OPS + k;
            return slot >= 0 && slot < ops.length ? ops[slot] : 0;
        }

        boolean isDown(int element, int choice) {
            int way = wayOf(element);
            return way < ANY ? way == 1 : (choice >> way - ANY & 1) == 1;
        }

        int choices() {
            return 1 << anys;
        }
    }

    /** All of the live memory that an act can change. */
    private static final class Memory {
        int size = 2;
        int cells = 0;
        Kind fault = null;
        int faultKind = NONE;
        int a = NONE;
        int v = NONE;
        /** The latest RUN: its march (NONE without one), its choice, how many READS failed, how many are logged. */
        int runMarch = NONE;
        int runChoice = 0;
        int failed = NONE;
        int logged = 0;
        private final int[] map = new int[MOST_CELLS];
        /** Of each READ that failed 8 times its number, and its address. */
        private final int[] notes = new int[LOGGED];

        void begin(int n) {
            size = Math.max(2, Math.min(MOST_CELLS, n));
            for (int i = 0; i < MOST_CELLS; i++) {
                map[i] = i;
            }
            cells = 0;
            runMarch = NONE;
            failed = NONE;
            logged = 0;
            insert(null, NONE, NONE, NONE);
        }

        void copyFrom(Memory other) {
            size = other.size;
            cells = other.cells;
            fault = other.fault;
            faultKind = other.faultKind;
            a = other.a;
            v = other.v;
            runMarch = other.runMarch;
            runChoice = other.runChoice;
            failed = other.failed;
            logged = other.logged;
            System.arraycopy(other.map, 0, map, 0, MOST_CELLS);
            System.arraycopy(other.notes, 0, notes, 0, LOGGED);
        }

        boolean hasCell(int k) {
            return k >= 0 && k < size;
        }

        int cellOf(int address) {
            return address >= 0 && address < MOST_CELLS ? map[address] : NONE;
        }

        int addressOf(int cell) {
            for (int i = 0; i < MOST_CELLS; i++) {
                if (map[i] == cell) {
                    return i;
                }
            }
            return NONE;
        }

        void exchange(int one, int other) {
            if (hasCell(one) && hasCell(other)) {
                int kept = map[one];
                map[one] = map[other];
                map[other] = kept;
            }
        }

        /** Puts a fault in, or none; its k and s hold at once. */
        void insert(Kind told, int kind, int aggressor, int victim) {
            fault = told;
            faultKind = kind;
            a = aggressor;
            v = victim;
            fill(cells);
        }

        void fill(int contents) {
            cells = contents;
            if (fault != null) {
                setState(fault.settledFrom(state()));
            }
        }

        /** What is read; 0 of a write. */
        int operate(int address, int act) {
            int cell = cellOf(address);
            if (cell == NONE) {
                return 0;
            }
            if (fault != null && (cell == v || cell == a)) {
                int outcome = fault.outcomeOf(cell == v ? VICTIM : AGGRESSOR, act, state());
                setState(outcome & 3);
                return outcome >> 2;
            }
            if (act == READ) {
                return cells >> cell & 1;
            }
            cells = withBit(cells, cell, act - 1);
            return 0;
        }

        private int state() {
            int state = v == NONE ? 0 : cells >> v & 1;
            return a == NONE ? state : state | (cells >> a & 1) << 1;
        }

        private void setState(int state) {
            if (v != NONE) {
                cells = withBit(cells, v, state & 1);
            }
            if (a != NONE) {
                cells = withBit(cells, a, state >> 1 & 1);
            }
        }

        private static int withBit(int bits, int k, int d) {
            return bits & ~(1 << k) | d << k;
        }

        void goThrough(March walked, int march, int choice) {
            runMarch = march;
            runChoice = choice;
            failed = 0;
            logged = 0;
            int number = 0;
            for (int e = 0; e < walked.elements; e++) {
                boolean down = walked.isDown(e, choice);
                for (int i = 0; i < size; i++) {
                    visit(walked, e, down ? size - 1 - i : i, number);
                    number += walked.readsOf(e);
                }
            }
        }

        private void visit(March walked, int e, int address, int firstNumber) {
            int number = firstNumber;
            for (int k = 0; k < walked.opsOf(e); k++) {
                int op = walked.opAt(e, k);
                int act = op < March.WRITES ? READ : op - 1;
                int read = operate(address, act);
                if (act == READ) {
                    if (read != op) {
                        note(number, address);
                    }
                    number++;
                }
            }
        }

        private void note(int number, int address) {
            if (logged < LOGGED) {
                notes[logged] = 8 * number + address;
                logged++;
            }
            failed++;
        }

        int loggedNumber(int k) {
            return k >= 0 && k < LOGGED ? notes[k] >> 3 : NONE;
        }

        int loggedAddress(int k) {
            return k >= 0 && k < LOGGED ? notes[k] & 7 : NONE;
        }

        /** The number of a READ tells its address, too, so the numbers are enough. */
        boolean hasLogOf(Trial trial) {
            if (trial.failed != failed) {
                return false;
            }
            for (int k = 0; k < logged; k++) {
                if (loggedNumber(k) != trial.numberAt(k)) {
                    return false;
                }
            }
            return true;
        }
    }

    /** The memory as it was ahead of each act that can be undone. */
    private static final class History {
        private static final int MOST_ACTS = 20;

        int size = 0;
        private int next = 0;
        private final Memory[] kept = new Memory[MOST_ACTS];

        void forget() {
            size = 0;
        }

        void keep(Memory memory) {
            Memory slot = kept[next];
            if (slot == null) {
                slot = new Memory();
                kept[next] = slot;
            }
            slot.copyFrom(memory);
            next = next + 1 < MOST_ACTS ? next + 1 : 0;
            size = Math.min(MOST_ACTS, size + 1);
        }

        boolean restore(Memory memory) {
            int last = next > 0 ? next - 1 : MOST_ACTS - 1;
            Memory before = kept[last];
            if (size <= 0 || before == null) {
                return false;
            }
            memory.copyFrom(before);
            next = last;
            size--;
            return true;
        }
    }

    /** A march over a fault's two cells, with the numbers that its READS have in the whole memory. */
    private static final class Trial {
        int aggressorAt = 0;
        int victimAt = 1;
        int failed = 0;
        private int size = 2;
        private int state = 0;
        private final int[] numbers = new int[LOGGED];

        void place(int n, int aggressor, int victim) {
            size = n;
            aggressorAt = aggressor;
            victimAt = victim;
        }

        /** How many READS fail. */
        int go(Kind told, March walked, int contents, int choice) {
            failed = 0;
            state = told.settledFrom(contents);
            int before = 0;
            for (int e = 0; e < walked.elements; e++) {
                boolean down = walked.isDown(e, choice);
                int first = aggressorAt < victimAt != down ? AGGRESSOR : VICTIM;
                visit(told, walked, e, first, before + rank(first, down) * walked.readsOf(e));
                int second = 1 - first;
                visit(told, walked, e, second, before + rank(second, down) * walked.readsOf(e));
                before += size * walked.readsOf(e);
            }
            return failed;
        }

        private int rank(int cell, boolean down) {
            int at = cell == VICTIM ? victimAt : aggressorAt;
            return down ? size - 1 - at : at;
        }

        private void visit(Kind told, March walked, int e, int cell, int firstNumber) {
            int number = firstNumber;
            for (int k = 0; k < walked.opsOf(e); k++) {
                int op = walked.opAt(e, k);
                int act = op < March.WRITES ? READ : op - 1;
                int outcome = told.outcomeOf(cell, act, state);
                state = outcome & 3;
                if (act == READ) {
                    if (outcome >> 2 != op) {
                        note(number);
                    }
                    number++;
                }
            }
        }

        private void note(int number) {
            if (failed < LOGGED) {
                numbers[failed] = number;
            }
            failed++;
        }

        int numberAt(int k) {
            return k >= 0 && k < LOGGED && k < failed ? numbers[k] : NONE;
        }
    }

    /** The faults that fit the log, and the parts that a march makes of them. */
    private static final class Suspects {
        /** 8 kinds in 30 placements each. */
        private static final int MOST = 240;
        /** At most 288 READS: their bits take five. */
        private static final int WIDTH = 5;

        int size = 0;
        int partCount = 0;
        /** 32 times the kind, and its placement. */
        private final int[] codes = new int[MOST];
        private final int[] partSizes = new int[MOST];
        private final int[] partFailed = new int[MOST];
        private final long[] partBits = new long[MOST * WIDTH];

        void add(int kind, int placement) {
            if (size < MOST) {
                codes[size] = 32 * kind + placement;
                size++;
            }
        }

        int kindOf(int i) {
            return i >= 0 && i < size && i < MOST ? codes[i] >> 5 : NONE;
        }

        int placementOf(int i) {
            return i >= 0 && i < size && i < MOST ? codes[i] & 31 : 0;
        }

        /** Puts one more into the part with the trial's log: how many are in it then. */
        int partWith(Trial trial) {
            if (partCount >= MOST) {
                return 0;
            }
            describe(trial, partCount);
            int part = 0;
            while (part < partCount && !isAlike(part, partCount)) {
                part++;
            }
            if (part == partCount) {
                partSizes[part] = 0;
                partCount++;
            }
            partSizes[part]++;
            return partSizes[part];
        }

        private void describe(Trial trial, int part) {
            int row = part * WIDTH;
            for (int i = 0; i < WIDTH; i++) {
                partBits[row + i] = 0L;
            }
            partFailed[part] = trial.failed;
            int noted = Math.min(LOGGED, trial.failed);
            for (int k = 0; k < noted; k++) {
                int number = trial.numberAt(k);
                if (number >= 0 && number < 64 * WIDTH) {
                    partBits[row + (number >> 6)] |= 1L << (number & 63);
                }
            }
        }

        private boolean isAlike(int one, int other) {
            if (partFailed[one] != partFailed[other]) {
                return false;
            }
            for (int i = 0; i < WIDTH; i++) {
                if (partBits[one * WIDTH + i] != partBits[other * WIDTH + i]) {
                    return false;
                }
            }
            return true;
        }
    }

    /** The search for the least march of a set of kinds, on two cells. */
    private static final class Search {
        private static final int MOST_STATES = 1200;
        private static final int MOST_OPS = 9;
        private static final int LONGEST = 3;
        /** Steps of one, two and three OPS begin at these numbers, the way down as many further on. */
        private static final int[] FIRST_STEP = {0, 0, 6, 24, 78};
        private static final int[] ONE_WAY = {0, 3, 9, 27};
        private static final int STEPS = 78;
        private static final int SOUNDS = 3;
        /** The states of the two cells are 0 to 3. */
        private static final int FAILED = 4;
        /** Eight times FAILED: of both placements each of four contents. */
        private static final int ALL_FAILED = 0x924924;
        private static final int SLOTS = 4096;
        private static final int NOTHING = 0;
        private static final int FOUND = 1;
        private static final int FULL = 2;

        /** By set: 0 not yet known; and its walk, seven bits an OP (element, down, OP). */
        private final int[] answers = new int[1 << MOST_KINDS];
        private final long[] walks = new long[1 << MOST_KINDS];
        private final int[] stepLength = new int[STEPS];
        private final boolean[] stepDown = new boolean[STEPS];
        private final int[] stepActs = new int[STEPS * LONGEST];
        /** By kind, sound and step: where each placement goes from each state, three bits each; NONE: no such step. */
        private final int[] moves = new int[MOST_KINDS * SOUNDS * STEPS];
        private int kindsLearned = 0;
        private final int[] chosen = new int[MOST_KINDS];
        private int width = 0;
        /** The STATES as they came, and one row more for the one that is tried. */
        private int size = 0;
        private final int[] codes = new int[(MOST_STATES + 1) * MOST_KINDS];
        /** 0: nothing is written yet; else one more than what a sound memory has. */
        private final int[] sounds = new int[MOST_STATES + 1];
        private final int[] parents = new int[MOST_STATES + 1];
        private final int[] steps = new int[MOST_STATES + 1];
        private final int[] slots = new int[SLOTS];
        private final int[] levelStart = new int[MOST_OPS + 1];

        Search() {
            for (int length = 1; length <= LONGEST; length++) {
                for (int step = FIRST_STEP[length]; step < FIRST_STEP[length + 1]; step++) {
                    int rest = step - FIRST_STEP[length];
                    stepLength[step] = length;
                    stepDown[step] = rest >= ONE_WAY[length];
                    for (int i = length - 1; i >= 0; i--) {
                        stepActs[step * LONGEST + i] = rest % 3;
                        rest /= 3;
                    }
                }
            }
        }

        int answerOf(int bits) {
            return bits >= 0 && bits < answers.length ? answers[bits] : NONE;
        }

        /** 100 times its element, 10 more of one that goes down, and the OP. */
        int walkedOp(int bits, int k) {
            if (bits < 0 || bits >= walks.length || k < 0 || k >= MOST_OPS) {
                return NONE;
            }
            int packed = (int) (walks[bits] >>> 7 * k) & 127;
            return 100 * (packed >> 3) + 10 * (packed >> 2 & 1) + (packed & 3);
        }

        /** Finds the answer of a set, once: its kinds never change. */
        void solve(int bits, Kind[] kinds) {
            if (bits <= 0 || bits >= answers.length || answers[bits] != 0) {
                return;
            }
            width = 0;
            for (int k = 0; k < MOST_KINDS && k < kinds.length; k++) {
                if ((bits >> k & 1) == 1 && kinds[k] != null) {
                    learn(k, kinds[k]);
                    chosen[width] = k;
                    codes[width] = firstCode(kinds[k]);
                    width++;
                }
            }
            Arrays.fill(slots, 0);
            sounds[0] = 0;
            slots[slotOf(0)] = 1;
            size = 1;
            answers[bits] = explore();
            if (answers[bits] > 0) {
                walks[bits] = walkTo(size);
            }
        }

        private static int firstCode(Kind kind) {
            int code = 0;
            for (int item = 0; item < 8; item++) {
                code |= kind.settledFrom(item & 3) << 3 * item;
            }
            return code;
        }

        private void learn(int k, Kind kind) {
            if ((kindsLearned >> k & 1) == 1) {
                return;
            }
            kindsLearned |= 1 << k;
            for (int sound = 0; sound < SOUNDS; sound++) {
                for (int step = 0; step < STEPS; step++) {
                    boolean early = sound == 0 && stepActs[step * LONGEST] == READ;
                    moves[(k * SOUNDS + sound) * STEPS + step] = early ? NONE : moveOf(kind, sound, step);
                }
            }
        }

        private int moveOf(Kind kind, int sound, int step) {
            int packed = FAILED << 12 | FAILED << 27;
            int first = stepDown[step] ? VICTIM : AGGRESSOR;
            for (int state = 0; state < 4; state++) {
                packed |= behindStep(kind, first, sound, step, state) << 3 * state;
                packed |= behindStep(kind, 1 - first, sound, step, state) << 15 + 3 * state;
            }
            return packed;
        }

        /** All OPS of the step on the first cell, then on the other one. */
        private int behindStep(Kind kind, int first, int sound, int step, int from) {
            int length = stepLength[step];
            int state = from;
            int due = sound - 1;
            for (int i = 0; i < 2 * length && state != FAILED; i++) {
                if (i == length) {
                    due = sound - 1;
                }
                int act = stepActs[step * LONGEST + (i < length ? i : i - length)];
                int outcome = kind.outcomeOf(i < length ? first : 1 - first, act, state);
                state = act == READ && outcome >> 2 != due ? FAILED : outcome & 3;
                due = act == READ ? due : act - 1;
            }
            return state;
        }

        private int explore() {
            levelStart[0] = 0;
            for (int ops = 1; ops <= MOST_OPS; ops++) {
                levelStart[ops] = size;
                for (int length = 1; length <= LONGEST && length <= ops; length++) {
                    int got = expand(ops - length, length);
                    if (got != NOTHING) {
                        return got == FOUND ? ops : UNKNOWN;
                    }
                }
            }
            return ABSENT;
        }

        private int expand(int level, int length) {
            for (int s = levelStart[level]; s < levelStart[level + 1]; s++) {
                for (int step = FIRST_STEP[length]; step < FIRST_STEP[length + 1]; step++) {
                    int got = arrive(s, step);
                    if (got != NOTHING) {
                        return got;
                    }
                }
            }
            return NOTHING;
        }

        /** Tries the STATE behind a step; the one that ends the search may well be the 1,201st. */
        private int arrive(int s, int step) {
            boolean over = true;
            for (int j = 0; j < width; j++) {
                int move = moves[(chosen[j] * SOUNDS + sounds[s]) * STEPS + step];
                if (move == NONE) {
                    return NOTHING;
                }
                int code = moved(codes[s * MOST_KINDS + j], move);
                codes[size * MOST_KINDS + j] = code;
                over = over && code == ALL_FAILED;
            }
            sounds[size] = soundBehind(sounds[s], step);
            parents[size] = s;
            steps[size] = step;
            if (over) {
                return FOUND;
            }
            int slot = slotOf(size);
            if (slots[slot] != 0) {
                return NOTHING;
            }
            if (size >= MOST_STATES) {
                return FULL;
            }
            size++;
            slots[slot] = size;
            return NOTHING;
        }

        private static int moved(int code, int move) {
            int then = 0;
            for (int item = 0; item < 8; item++) {
                int state = code >> 3 * item & 7;
                int from = (item < 4 ? 0 : 15) + 3 * state;
                then |= (move >> from & 7) << 3 * item;
            }
            return then;
        }

        private int soundBehind(int sound, int step) {
            int then = sound;
            for (int i = 0; i < stepLength[step]; i++) {
                int act = stepActs[step * LONGEST + i];
                then = act == READ ? then : act;
            }
            return then;
        }

        /** Where this row stands, or the empty slot where it would. */
        private int slotOf(int row) {
            int mixed = sounds[row];
            for (int j = 0; j < width; j++) {
                mixed = (mixed ^ codes[row * MOST_KINDS + j]) * 0x01000193;
                mixed ^= mixed >>> 15;
            }
            int slot = mixed & SLOTS - 1;
            for (int tries = 0; tries < SLOTS; tries++) {
                if (slots[slot] == 0 || isSame(slots[slot] - 1, row)) {
                    return slot;
                }
                slot = slot + 1 & SLOTS - 1;
            }
            return slot;
        }

        private boolean isSame(int one, int other) {
            if (sounds[one] != sounds[other]) {
                return false;
            }
            for (int j = 0; j < width; j++) {
                if (codes[one * MOST_KINDS + j] != codes[other * MOST_KINDS + j]) {
                    return false;
                }
            }
            return true;
        }

        private long walkTo(int row) {
            int ops = 0;
            int elements = 0;
            for (int at = row; at > 0 && elements < MOST_OPS; at = parents[at]) {
                ops += stepLength[steps[at]];
                elements++;
            }
            long packed = 0L;
            int at = row;
            for (int element = elements - 1; element >= 0 && at > 0; element--) {
                int before = parents[at];
                ops -= stepLength[steps[at]];
                packed |= packedStep(steps[at], element, sounds[before]) << 7 * ops;
                at = before;
            }
            return packed;
        }

        private long packedStep(int step, int element, int soundAhead) {
            long packed = 0L;
            int due = soundAhead - 1;
            for (int i = 0; i < stepLength[step]; i++) {
                int act = stepActs[step * LONGEST + i];
                due = act == READ ? due : act - 1;
                int op = act == READ ? due : March.WRITES + due;
                packed |= (long) (element << 3 | (stepDown[step] ? 4 : 0) | op & 3) << 7 * i;
            }
            return packed;
        }
    }
}
