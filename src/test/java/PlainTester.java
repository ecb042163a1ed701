import java.util.ArrayDeque;
import java.util.ArrayList;
import java.util.Arrays;
import java.util.Deque;
import java.util.HashMap;
import java.util.HashSet;
import java.util.List;
import java.util.Map;
import java.util.Set;

/**
 * The document done again in the plainest way, with the whole memory in every trial and nothing kept, as
 * something to compare MarchTester with. It shares no code and no short cut with it.
 */
final class PlainTester {
    /** A rule as its signs without blanks, such as v0w1:0. */
    record Kind(List<String> rules) {
        boolean has(char letter) {
            return rules.stream().anyMatch(r -> r.charAt(0) == letter);
        }

        boolean pair() {
            return has('a') || has('s') || has('m') || has('b');
        }
    }

    record Element(String way, List<String> ops) { }

    record Fault(int kind, int a, int v) { }

    record Entry(int number, int address) { }

    static final class Mem {
        int[] cells;
        int[] layout;
        Kind kind;
        Fault fault;
        List<Entry> log = new ArrayList<>();
        int failed = -1;
        int runMarch = -1;
        int runChoice = -1;

        Mem(int n) {
            cells = new int[n];
            layout = new int[n];
            for (int i = 0; i < n; i++) {
                layout[i] = i;
            }
        }

        Mem copy() {
            Mem m = new Mem(cells.length);
            m.cells = cells.clone();
            m.layout = layout.clone();
            m.kind = kind;
            m.fault = fault;
            m.log = new ArrayList<>(log);
            m.failed = failed;
            m.runMarch = runMarch;
            m.runChoice = runChoice;
            return m;
        }

        int bits() {
            int b = 0;
            for (int i = 0; i < cells.length; i++) {
                b += cells[i] << i;
            }
            return b;
        }

        void tell(int contents) {
            for (int i = 0; i < cells.length; i++) {
                cells[i] = contents >> i & 1;
            }
            settle();
        }

        void put(Kind k, Fault f) {
            kind = k;
            fault = f;
            settle();
        }

        void settle() {
            if (kind == null) {
                return;
            }
            for (String r : kind.rules()) {
                if (r.startsWith("k")) {
                    cells[fault.v()] = r.charAt(2) - '0';
                    break;
                }
            }
            for (String r : kind.rules()) {
                if (r.startsWith("s") && cells[fault.a()] == r.charAt(1) - '0') {
                    cells[fault.v()] = r.charAt(3) - '0';
                }
            }
        }

        String first(String start) {
            for (String r : kind.rules()) {
                if (r.startsWith(start)) {
                    return r.substring(r.indexOf(':') + 1);
                }
            }
            return null;
        }

        void strike(String effect) {
            if (effect != null) {
                cells[fault.v()] = effect.equals("x") ? 1 - cells[fault.v()] : effect.charAt(0) - '0';
            }
        }

        void writeCell(int c, int d) {
            int was = cells[c];
            cells[c] = d;
            if (kind != null) {
                if (c == fault.v()) {
                    String t = first("v" + was + "w" + d);
                    if (t != null) {
                        cells[c] = t.charAt(0) - '0';
                    }
                }
                if (c == fault.a()) {
                    strike(first("a" + was + "w" + d));
                }
                settle();
            }
        }

        int readCell(int c) {
            int is = cells[c];
            int told = is;
            if (kind != null) {
                if (c == fault.v()) {
                    String t = first("v" + is + "r");
                    if (t != null) {
                        cells[c] = t.charAt(0) - '0';
                        told = t.charAt(2) - '0';
                    }
                }
                if (c == fault.a()) {
                    strike(first("a" + is + "r"));
                }
                settle();
            }
            return told;
        }

        void write(int address, int d) {
            int c = layout[address];
            if (kind != null && kind.has('n') && c == fault.v()) {
                return;
            }
            if (kind != null && kind.has('m') && c == fault.a()) {
                writeCell(fault.v(), d);
                return;
            }
            writeCell(c, d);
            if (kind != null && kind.has('b') && c == fault.a()) {
                writeCell(fault.v(), d);
            }
        }

        int read(int address) {
            int c = layout[address];
            if (kind != null && kind.has('n') && c == fault.v()) {
                return kind.rules().get(0).charAt(2) - '0';
            }
            if (kind != null && kind.has('m') && c == fault.a()) {
                return readCell(fault.v());
            }
            int one = readCell(c);
            if (kind != null && kind.has('b') && c == fault.a()) {
                int other = readCell(fault.v());
                return kind.rules().get(0).endsWith("1") ? Math.max(one, other) : Math.min(one, other);
            }
            return one;
        }

        void run(List<Element> march, int choice) {
            log = new ArrayList<>();
            failed = 0;
            int number = 0;
            int anys = 0;
            int n = cells.length;
            for (Element e : march) {
                boolean down = e.way().equals("down");
                if (e.way().equals("any")) {
                    down = (choice >> anys & 1) == 1;
                    anys++;
                }
                for (int i = 0; i < n; i++) {
                    int address = down ? n - 1 - i : i;
                    for (String op : e.ops()) {
                        int d = op.charAt(1) - '0';
                        if (op.charAt(0) == 'w') {
                            write(address, d);
                        } else {
                            if (read(address) != d) {
                                failed++;
                                if (log.size() < 60) {
                                    log.add(new Entry(number, address));
                                }
                            }
                            number++;
                        }
                    }
                }
            }
        }
    }

    private final StringBuilder tape = new StringBuilder();
    private final List<Kind> kinds = new ArrayList<>();
    private final List<List<Element>> marches = new ArrayList<>();
    private Mem mem = new Mem(4);
    private final Deque<Mem> past = new ArrayDeque<>();
    private long x = 0;

    // ---- texts

    private static final class Wrong extends RuntimeException {
        private static final long serialVersionUID = 1L;

        final int fault;

        Wrong(int place, int why) {
            super(null, null, false, false);
            fault = 8 * place + why;
        }
    }

    private String text;
    private int at;

    private void blanks() {
        while (at < text.length() && text.charAt(at) == ' ') {
            at++;
        }
    }

    private char want(String signs) {
        blanks();
        if (at >= text.length() || signs.indexOf(text.charAt(at)) < 0) {
            throw new Wrong(at, 1);
        }
        return text.charAt(at++);
    }

    private boolean over() {
        blanks();
        return at >= text.length();
    }

    private Kind parseKind(String t) {
        text = t;
        at = 0;
        List<String> rules = new ArrayList<>();
        while (true) {
            char letter = want("vasknmb");
            int place = at - 1;
            if (rules.size() == 4) {
                throw new Wrong(place, 2);
            }
            boolean loner = "nmb".indexOf(letter) >= 0;
            if (!rules.isEmpty() && (loner || "nmb".indexOf(rules.get(0).charAt(0)) >= 0)) {
                throw new Wrong(place, 3);
            }
            StringBuilder r = new StringBuilder().append(letter);
            if (letter != 'm') {
                if ("vas".indexOf(letter) >= 0) {
                    r.append(want("01"));
                }
                boolean reads = false;
                if ("va".indexOf(letter) >= 0) {
                    char act = want("wr");
                    r.append(act);
                    reads = act == 'r';
                    if (!reads) {
                        r.append(want("01"));
                    }
                }
                r.append(want(":"));
                r.append(want(letter == 'a' ? "01x" : "01"));
                if (letter == 'v' && reads) {
                    r.append(want("/"));
                    r.append(want("01"));
                }
            }
            rules.add(r.toString());
            if (over()) {
                return new Kind(rules);
            }
            want(",");
        }
    }

    private List<Element> parseMarch(String t) {
        text = t;
        at = 0;
        List<Element> elements = new ArrayList<>();
        int anys = 0;
        int sound = -1;
        while (true) {
            blanks();
            int place = at;
            while (at < text.length() && text.charAt(at) >= 'a' && text.charAt(at) <= 'z') {
                at++;
            }
            String way = text.substring(place, at);
            if (!List.of("up", "down", "any").contains(way)) {
                throw new Wrong(place, 1);
            }
            anys += way.equals("any") ? 1 : 0;
            if (elements.size() == 8 || way.equals("any") && anys == 4) {
                throw new Wrong(place, 2);
            }
            want("(");
            List<String> ops = new ArrayList<>();
            do {
                char letter = want("rw");
                int opAt = at - 1;
                if (ops.size() == 6) {
                    throw new Wrong(opAt, 3);
                }
                char d = want("01");
                if (letter == 'r' && d - '0' != sound) {
                    throw new Wrong(opAt, 4);
                }
                sound = letter == 'w' ? d - '0' : sound;
                ops.add("" + letter + d);
            } while (want(",)") == ',');
            elements.add(new Element(way, ops));
            if (over()) {
                return elements;
            }
            want(";");
        }
    }

    int feed(int a, int b, int c, int d, int e) {
        if (tape.length() + 20 > 200) {
            return -1;
        }
        for (int number : new int[] {a, b, c, d, e}) {
            for (int i = 3; i >= 0; i--) {
                tape.append((char) (number >>> 8 * i & 255));
            }
        }
        return tape.length();
    }

    int end(int n) {
        if (n < 0 || n > tape.length()) {
            return -1;
        }
        tape.setLength(n);
        return n;
    }

    int kind() {
        if (kinds.size() == 8 || tape.length() > 100) {
            return -1;
        }
        String t = tape.toString();
        tape.setLength(0);
        try {
            kinds.add(parseKind(t));
        } catch (Wrong w) {
            return -2 - w.fault;
        }
        return kinds.size() - 1;
    }

    int march() {
        if (marches.size() == 6) {
            return -1;
        }
        String t = tape.toString();
        tape.setLength(0);
        try {
            marches.add(parseMarch(t));
        } catch (Wrong w) {
            return -2 - w.fault;
        }
        return marches.size() - 1;
    }

    private boolean isKind(int k) {
        return k >= 0 && k < kinds.size();
    }

    private boolean isMarch(int m) {
        return m >= 0 && m < marches.size();
    }

    private int n() {
        return mem.cells.length;
    }

    private List<Fault> placements(int kind, int n, boolean near) {
        List<Fault> list = new ArrayList<>();
        if (!kinds.get(kind).pair()) {
            for (int v = 0; v < n; v++) {
                list.add(new Fault(kind, -1, v));
            }
            return list;
        }
        for (int a = 0; a < n; a++) {
            for (int v = 0; v < n; v++) {
                if (a != v && (!near || Math.abs(a - v) == 1)) {
                    list.add(new Fault(kind, a, v));
                }
            }
        }
        return list;
    }

    int ofKind(int kind, int what) {
        if (!isKind(kind) || what < 0 || what > 3) {
            return -1;
        }
        return new int[] {kinds.get(kind).rules().size(), kinds.get(kind).pair() ? 1 : 0,
            placements(kind, n(), false).size(), placements(kind, n(), true).size()}[what];
    }

    int ofMarch(int march, int what) {
        if (!isMarch(march) || what < 0 || what > 4) {
            return -1;
        }
        int ops = 0;
        int reads = 0;
        int anys = 0;
        int sound = -1;
        for (Element e : marches.get(march)) {
            anys += e.way().equals("any") ? 1 : 0;
            for (String op : e.ops()) {
                ops++;
                if (op.startsWith("r")) {
                    reads++;
                } else {
                    sound = op.charAt(1) - '0';
                }
            }
        }
        return new int[] {marches.get(march).size(), ops, reads, anys, sound}[what];
    }

    int element(int march, int element, int what) {
        if (!isMarch(march) || element < 0 || element >= marches.get(march).size()) {
            return -1;
        }
        Element e = marches.get(march).get(element);
        if (what == 0) {
            return List.of("up", "down", "any").indexOf(e.way());
        }
        if (what == 1) {
            return e.ops().size();
        }
        if (what < 2 || what - 2 >= e.ops().size()) {
            return -1;
        }
        return List.of("r0", "r1", "w0", "w1").indexOf(e.ops().get(what - 2));
    }

    // ---- catching

    private Mem trial(int[] layout, Fault f, int contents, int march, int choice) {
        Mem m = new Mem(layout.length);
        m.layout = layout.clone();
        m.put(kinds.get(f.kind()), f);
        m.tell(contents);
        m.run(marches.get(march), choice);
        return m;
    }

    /** The first contents and CHOICE by which it escapes; null if it is caught. */
    private int[] wayOut(int[] layout, Fault f, int march) {
        for (int contents = 0; contents < 1 << layout.length; contents++) {
            for (int choice = 0; choice < 8; choice++) {
                if (trial(layout, f, contents, march, choice).failed == 0) {
                    return new int[] {contents, choice};
                }
            }
        }
        return null;
    }

    int caught(int march, int kind, boolean near) {
        if (!isMarch(march) || !isKind(kind)) {
            return -1;
        }
        int c = 0;
        for (Fault f : placements(kind, n(), near)) {
            c += wayOut(mem.layout, f, march) == null ? 1 : 0;
        }
        return c;
    }

    int escape(int march, int kind, boolean near, int what) {
        if (!isMarch(march) || !isKind(kind) || what < 0 || what > 3) {
            return -1;
        }
        for (Fault f : placements(kind, n(), near)) {
            int[] out = wayOut(mem.layout, f, march);
            if (out != null) {
                return new int[] {f.v(), f.a(), out[0], out[1]}[what];
            }
        }
        return -2;
    }

    int onTwo(int march, int kind) {
        if (!isMarch(march) || !isKind(kind)) {
            return -1;
        }
        int c = 0;
        boolean pair = kinds.get(kind).pair();
        int[] own = {0, 1};
        c += wayOut(own, pair ? new Fault(kind, 0, 1) : new Fault(kind, -1, 0), march) == null ? 1 : 0;
        c += wayOut(own, pair ? new Fault(kind, 1, 0) : new Fault(kind, -1, 1), march) == null ? 2 : 0;
        return c;
    }

    int covers(int march) {
        if (!isMarch(march)) {
            return -1;
        }
        int bits = 0;
        for (int k = 0; k < kinds.size(); k++) {
            if (caught(march, k, false) == placements(k, n(), false).size()) {
                bits |= 1 << k;
            }
        }
        return bits;
    }

    // ---- the least march

    private record Step(boolean down, List<Character> ops) { }

    private record Node(int sound, List<Integer> items, Node from, Element by, int ops) { }

    private final Map<Integer, Node> found = new HashMap<>();
    private final Map<Integer, Integer> answers = new HashMap<>();

    private static List<Step> steps(int l) {
        List<Step> list = new ArrayList<>();
        for (boolean down : new boolean[] {false, true}) {
            List<List<Character>> words = new ArrayList<>();
            words.add(List.of());
            for (int i = 0; i < l; i++) {
                List<List<Character>> longer = new ArrayList<>();
                for (List<Character> w : words) {
                    for (char c : new char[] {'r', '0', '1'}) {
                        List<Character> more = new ArrayList<>(w);
                        more.add(c);
                        longer.add(more);
                    }
                }
                words = longer;
            }
            for (List<Character> w : words) {
                list.add(new Step(down, w));
            }
        }
        return list;
    }

    private List<Fault> bothPlacements(int mask) {
        List<Fault> faults = new ArrayList<>();
        for (int k = 0; k < kinds.size(); k++) {
            if ((mask >> k & 1) == 1) {
                faults.addAll(placements(k, 2, false));
            }
        }
        return faults;
    }

    private Node behind(Node s, Step step, List<Fault> faults, int ops) {
        List<String> words = new ArrayList<>();
        int sound = s.sound();
        for (char c : step.ops()) {
            if (c == 'r') {
                if (sound < 0) {
                    return null;
                }
                words.add("r" + sound);
            } else {
                sound = c - '0';
                words.add("w" + sound);
            }
        }
        Element e = new Element(step.down() ? "down" : "up", words);
        List<Integer> items = new ArrayList<>();
        for (int i = 0; i < s.items().size(); i++) {
            if (s.items().get(i) == 9) {
                items.add(9);
                continue;
            }
            Fault f = faults.get(i / 4);
            Mem m = new Mem(2);
            m.kind = kinds.get(f.kind());
            m.fault = f;
            m.cells[0] = s.items().get(i) & 1;
            m.cells[1] = s.items().get(i) >> 1;
            m.run(List.of(e), 0);
            items.add(m.failed > 0 ? 9 : m.bits());
        }
        return new Node(sound, items, s, e, ops);
    }

    private static String name(Node s) {
        return s.sound() + " " + s.items();
    }

    private int search(int mask) {
        List<Fault> faults = bothPlacements(mask);
        List<Integer> begin = new ArrayList<>();
        for (Fault f : faults) {
            for (int contents = 0; contents < 4; contents++) {
                Mem m = new Mem(2);
                m.put(kinds.get(f.kind()), f);
                m.tell(contents);
                begin.add(m.bits());
            }
        }
        List<Node> came = new ArrayList<>();
        Set<String> names = new HashSet<>();
        came.add(new Node(-1, begin, null, null, 0));
        names.add(name(came.get(0)));
        for (int c = 1; c <= 9; c++) {
            for (int l = 1; l <= 3; l++) {
                int now = came.size();
                for (int i = 0; i < now; i++) {
                    if (came.get(i).ops() != c - l) {
                        continue;
                    }
                    for (Step step : steps(l)) {
                        Node next = behind(came.get(i), step, faults, c);
                        if (next == null || names.contains(name(next))) {
                            continue;
                        }
                        if (next.items().stream().allMatch(v -> v == 9)) {
                            found.put(mask, next);
                            return c;
                        }
                        if (came.size() == 1200) {
                            return -3;
                        }
                        came.add(next);
                        names.add(name(next));
                    }
                }
            }
        }
        return -2;
    }

    int least(int mask) {
        if (mask < 0 || mask >= 1 << kinds.size()) {
            return -1;
        }
        if (mask == 0) {
            return 0;
        }
        if (!answers.containsKey(mask)) {
            answers.put(mask, search(mask));
        }
        return answers.get(mask);
    }

    int walk(int mask, int k) {
        if (least(mask) <= 0 || k < -1) {
            return -1;
        }
        List<Element> elements = new ArrayList<>();
        for (Node s = found.get(mask); s.from() != null; s = s.from()) {
            elements.add(0, s.by());
        }
        if (k == -1) {
            return elements.size();
        }
        List<Integer> told = new ArrayList<>();
        for (int e = 0; e < elements.size(); e++) {
            for (String op : elements.get(e).ops()) {
                told.add(100 * e + (elements.get(e).way().equals("down") ? 10 : 0)
                    + List.of("r0", "r1", "w0", "w1").indexOf(op));
            }
        }
        return k < told.size() ? told.get(k) : -2;
    }

    // ---- live

    private void act() {
        past.addLast(mem.copy());
        if (past.size() > 20) {
            past.removeFirst();
        }
    }

    boolean memory(int n) {
        if (n < 2 || n > 6) {
            return false;
        }
        mem = new Mem(n);
        past.clear();
        return true;
    }

    private boolean isCell(int c) {
        return c >= 0 && c < n();
    }

    boolean put(int kind, int a, int v) {
        if (!isKind(kind) || !placements(kind, n(), false).contains(new Fault(kind, a, v))) {
            return false;
        }
        act();
        mem.put(kinds.get(kind), new Fault(kind, a, v));
        return true;
    }

    boolean heal() {
        if (mem.fault == null) {
            return false;
        }
        act();
        mem.kind = null;
        mem.fault = null;
        return true;
    }

    int tell(int contents) {
        if (contents < 0 || contents >= 1 << n()) {
            return -1;
        }
        act();
        int was = mem.bits();
        mem.tell(contents);
        return was;
    }

    int write(int address, int d) {
        if (!isCell(address) || d < 0 || d > 1) {
            return -1;
        }
        act();
        mem.write(address, d);
        return mem.bits();
    }

    int read(int address) {
        if (!isCell(address)) {
            return -1;
        }
        act();
        return mem.read(address);
    }

    int run(int march, int choice) {
        if (!isMarch(march) || choice < 0 || choice > 7) {
            return -1;
        }
        act();
        mem.run(marches.get(march), choice);
        mem.runMarch = march;
        mem.runChoice = choice;
        return mem.failed;
    }

    int layout(int one, int other) {
        if (!isCell(one) || !isCell(other) || one == other) {
            return -1;
        }
        act();
        int kept = mem.layout[one];
        mem.layout[one] = mem.layout[other];
        mem.layout[other] = kept;
        return mem.layout[one];
    }

    int undo() {
        if (past.isEmpty()) {
            return -1;
        }
        mem = past.removeLast();
        return past.size();
    }

    int cell(int k, int what) {
        if (!isCell(k) || what < 0 || what > 1) {
            return -1;
        }
        return what == 0 ? mem.layout[k] : mem.cells[k];
    }

    int log(int k, int what) {
        if (k < 0 || what < 0 || what > 1) {
            return -1;
        }
        if (k >= mem.log.size()) {
            return -2;
        }
        return what == 0 ? mem.log.get(k).number() : mem.log.get(k).address();
    }

    // ---- diagnosis

    private List<Fault> fitting() {
        List<Fault> list = new ArrayList<>();
        for (int k = 0; k < kinds.size(); k++) {
            for (Fault f : placements(k, n(), false)) {
                for (int contents = 0; contents < 1 << n(); contents++) {
                    Mem m = trial(mem.layout, f, contents, mem.runMarch, mem.runChoice);
                    if (m.failed == mem.failed && m.log.equals(mem.log)) {
                        list.add(f);
                        break;
                    }
                }
            }
        }
        return list;
    }

    int fits(int what) {
        if (what < 0 || what > 3 || mem.runMarch < 0) {
            return -1;
        }
        List<Fault> list = fitting();
        if (what == 0) {
            return list.size();
        }
        if (list.isEmpty()) {
            return -2;
        }
        return new int[] {list.get(0).kind(), list.get(0).a(), list.get(0).v()}[what - 1];
    }

    int parts(int march) {
        if (!isMarch(march) || mem.runMarch < 0) {
            return -1;
        }
        Map<String, Integer> sizes = new HashMap<>();
        int greatest = 0;
        for (Fault f : fitting()) {
            Mem m = trial(mem.layout, f, 0, march, 0);
            greatest = Math.max(greatest, sizes.merge(m.failed + " " + m.log, 1, Integer::sum));
        }
        return greatest;
    }

    int ask() {
        if (mem.runMarch < 0) {
            return -1;
        }
        int best = 0;
        for (int m = 1; m < marches.size(); m++) {
            if (parts(m) < parts(best)) {
                best = m;
            }
        }
        return best;
    }

    // ---- draws

    int draws(int number) {
        if (number < 0) {
            return -1;
        }
        int was = (int) x;
        x = number;
        return was;
    }

    private int draw(int k) {
        x = (x * 1103515245L + 12345L) % 2147483648L;
        return (int) (x / 65536 % k);
    }

    int drawn(int march, int m) {
        if (!isMarch(march) || m < 1 || m > 50 || kinds.isEmpty()) {
            return -1;
        }
        long kept = x;
        int c = 0;
        for (int i = 0; i < m; i++) {
            int kind = draw(kinds.size());
            List<Fault> list = placements(kind, n(), false);
            Fault f = list.get(draw(list.size()));
            int contents = draw(1 << n());
            int choice = draw(8);
            c += trial(mem.layout, f, contents, march, choice).failed > 0 ? 1 : 0;
        }
        x = kept;
        return c;
    }

    int count(int what) {
        if (what < 0 || what > 10) {
            return -1;
        }
        Fault f = mem.fault == null ? new Fault(-1, -1, -1) : mem.fault;
        return Arrays.asList(n(), kinds.size(), marches.size(), f.kind(), f.a(), f.v(), mem.bits(), mem.failed,
            past.size(), (int) x, tape.length()).get(what);
    }
}
