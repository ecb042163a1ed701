import java.util.List;
import java.util.function.Supplier;
import java.util.function.ToLongFunction;

/** The boundaries of promises 15 to 25, and 31: the live memory, its acts, its log. */
final class LiveEdges {
    private static final int NONE = MarchTester.NONE;
    private static final int LOWEST = Integer.MIN_VALUE;
    private static final int HIGHEST = Integer.MAX_VALUE;

    private final Sentences s;

    LiveEdges(Sentences s) {
        this.s = s;
    }

    void all() {
        memories();
        memorySizes();
        puts();
        putsRefused();
        settledAtOnce();
        heals();
        tells();
        writes();
        writeRules();
        reads();
        readRules();
        detours();
        runs();
        runWays();
        layouts();
        undos();
        undoneActs();
        lastTwenty();
        cells();
        logs();
        logLimits();
        counts();
    }

    private static MarchTester one(String kind, int n, int a, int v) {
        MarchTester x = Tell.with(Tell.kinds(kind));
        x.memory(n);
        x.put(0, a, v);
        return x;
    }

    private static int bit(boolean b) {
        return b ? 1 : 0;
    }

    private void refused(String call, ToLongFunction<MarchTester> done, long want) {
        s.refused(call, Tell::rich, done, want);
    }

    // ---- promise 15

    private void memories() {
        s.says(15, "A MEMORY of N CELLS, all 0, in place of the one there was (LAYOUT its own, no FAULT, no LOG, nothing can be UNDONE; KINDS, MARCHES and x stay): true;");
        for (int n = 2; n <= 6; n++) {
            MarchTester x = Tell.rich();
            s.due("memory(" + n + ")", x.memory(n), true);
            int[] want = {n, 3, 2, NONE, NONE, NONE, 0, NONE, 0, 77, 3};
            for (int what = 0; what < want.length; what++) {
                s.due("count(" + what + ") of " + n, x.count(what), want[what]);
            }
            for (int k = 0; k < n; k++) {
                s.due("cell(" + k + ", 0) of " + n, x.cell(k, 0), k);
                s.due("cell(" + k + ", 1) of " + n, x.cell(k, 1), 0);
            }
            s.due("log of " + n, x.log(0, 0), -2);
            s.due("fits of " + n, x.fits(0), NONE);
            s.due("undo of " + n, x.undo(), NONE);
            s.due("heal of " + n, x.heal(), false);
            x.write(0, 1);
            s.due("one act can be undone", x.undo(), 0);
            s.due("no act ahead of it", x.undo(), NONE);
            s.due("the first kind stays", x.put(0, NONE, n - 1), true);
            s.due("it holds", x.count(6), 1 << n - 1);
        }
        s.says(15, "false, and nothing happens, without these (2 to 6).");
        for (int n : new int[] {1, 7, 0, -1, LOWEST, HIGHEST}) {
            refused("memory(" + n + ")", t -> bit(t.memory(n)), 0);
        }
    }

    private void memorySizes() {
        s.says(15, "THE MEMORY has N CELLS (2 to 6), each 0 or 1, and ADDRESSES 0 to N - 1;");
        for (int n = 2; n <= 6; n++) {
            MarchTester x = new MarchTester();
            x.memory(n);
            s.due("write at the last address of " + n, x.write(n - 1, 1), 1 << n - 1);
            s.due("read at the last address of " + n, x.read(n - 1), 1);
            s.due("write behind the last address of " + n, x.write(n, 1), NONE);
            s.due("read behind the last address of " + n, x.read(n), NONE);
            s.due("layout behind the last address of " + n, x.layout(0, n), NONE);
            s.due("the last cell of " + n, x.cell(n - 1, 1), 1);
            s.due("no cell behind it of " + n, x.cell(n, 1), NONE);
            s.due("all 1 of " + n, x.tell((1 << n) - 1), 1 << n - 1);
            s.due("more than all of " + n, x.tell(1 << n), NONE);
        }
    }

    // ---- promises 16 and 17

    private void puts() {
        s.says(16, "PUT a FAULT IN IT (a NONE of a SINGLE KIND): true;");
        MarchTester x = Tell.with(Tell.kinds("v0w1:0", "a0w1:x"));
        int[][] faults = {{0, NONE, 0}, {0, NONE, 3}, {1, 0, 3}, {1, 3, 0}, {1, 2, 1}};
        for (int[] f : faults) {
            s.due("put(" + f[0] + ", " + f[1] + ", " + f[2] + ")", x.put(f[0], f[1], f[2]), true);
            for (int i = 0; i < 3; i++) {
                s.due("count(" + (3 + i) + ") then", x.count(3 + i), f[i]);
            }
        }
        s.says(16, "A FAULT IN IT is a KIND with a CELL v, and, of a PAIR, another CELL a.");
        s.due("a pair on one cell", x.put(1, 2, 2), false);
        s.due("a cell, not an address", one("k:1", 4, NONE, 2).count(6), 4);
        MarchTester y = Tell.with(Tell.kinds("k:1"));
        y.layout(2, 3);
        y.put(0, NONE, 2);
        s.due("a cell, not an address, when scrambled", y.count(6), 4);
        s.due("its address is 3", y.read(3), 1);
        s.says(16, "PUT a FAULT IN IT (in place of one)");
        MarchTester z = one("k:1", 4, NONE, 2);
        s.due("another place", z.put(0, NONE, 1), true);
        s.due("cells keep what it left", z.count(6), 6);
        s.due("the old one is gone", z.write(2, 0), 2);
        s.due("the same once more is an act", z.put(0, NONE, 1), true);
        s.due("acts", z.count(8), 4);
    }

    private void putsRefused() {
        s.says(16, "false, and nothing happens, without these.");
        int[][] wrong = {{3, NONE, 0}, {-1, NONE, 0}, {8, NONE, 0}, {LOWEST, NONE, 0}, {HIGHEST, NONE, 0}, {0, 0, 1},
            {0, -2, 1}, {0, 4, 1}, {0, LOWEST, 1}, {0, NONE, 4}, {0, NONE, NONE}, {0, NONE, LOWEST}, {0, NONE, HIGHEST},
            {1, NONE, 1}, {1, 4, 1}, {1, -2, 1}, {1, LOWEST, 0}, {1, HIGHEST, 0}, {1, 0, 4}, {1, 0, NONE}, {1, 0, 0},
            {1, 3, 3}, {1, NONE, NONE}};
        for (int[] f : wrong) {
            refused("put(" + f[0] + ", " + f[1] + ", " + f[2] + ")", t -> bit(t.put(f[0], f[1], f[2])), 0);
        }
        s.due("put without kinds", new MarchTester().put(0, NONE, 0), false);
    }

    private void settledAtOnce() {
        s.says(16, "Behind each WRITE and READ, and as soon as the FAULT is IN IT, or CELLS are told: by the first RULE k v is D; then by each RULE s D, in their order, v is what it tells, if a is D.");
        s.due("put k", one("k:1", 4, NONE, 2).count(6), 4);
        s.due("the first k alone", one("k:1,k:0", 4, NONE, 2).count(6), 4);
        s.due("s behind k, though told ahead of it", one("s0:1,k:0", 4, 0, 2).count(6), 4);
        s.due("k, if a is not D", one("s1:0,k:1", 4, 0, 2).count(6), 4);
        s.due("each s, the last one holds", one("s0:1,s0:0", 4, 0, 2).count(6), 0);
        s.due("each s, in their order", one("s0:0,s0:1", 4, 0, 2).count(6), 4);
        s.due("s 1 not with a 0", one("s1:1", 4, 0, 2).count(6), 0);
        MarchTester told = one("s1:0,k:1", 4, 0, 2);
        told.tell(1);
        s.due("told: a is 1", told.count(6), 1);
        told.tell(0);
        s.due("told: a is 0", told.count(6), 4);
        s.due("a written 1", told.write(0, 1), 1);
        s.due("v written 1, a is 1", told.write(2, 1), 1);
        s.due("a written 0", told.write(0, 0), 4);
        s.due("v written 0, k is 1", told.write(2, 0), 4);
        MarchTester read = one("v1r:0/1,k:1", 4, NONE, 2);
        s.due("read 1", read.read(2), 1);
        s.due("k behind a READ", read.count(6), 4);
        MarchTester pair = one("a0r:1,s0:0", 4, 0, 2);
        pair.read(0);
        s.due("s behind a READ of a", pair.count(6), 0);
        s.due("s behind a WRITE of v", pair.write(2, 1), 0);
    }

    private void heals() {
        s.says(17, "HEAL: true;");
        MarchTester x = one("k:1", 4, NONE, 2);
        s.due("heal", x.heal(), true);
        for (int what = 3; what <= 5; what++) {
            s.due("count(" + what + ") then", x.count(what), NONE);
        }
        s.due("cells stay as they are", x.count(6), 4);
        s.due("and are sound", x.write(2, 0), 0);
        s.due("two acts and a write", x.count(8), 3);
        s.says(17, "false, and nothing happens, if there is no FAULT IN IT.");
        s.due("of a new object", new MarchTester().heal(), false);
        Supplier<MarchTester> healed = () -> {
            MarchTester t = Tell.rich();
            t.heal();
            return t;
        };
        s.refused("heal twice", healed, t -> bit(t.heal()), 0);
        x.undo();
        x.undo();
        s.due("heal again, when it is undone", x.heal(), true);
    }

    // ---- promise 18

    private void tells() {
        s.says(18, "TELL CELLS (bits, CELL 0 the lowest): what they were, as bits;");
        MarchTester x = new MarchTester();
        s.due("tell(1)", x.tell(1), 0);
        s.due("cell 0", x.cell(0, 1), 1);
        s.due("tell(8)", x.tell(8), 1);
        s.due("cell 3", x.cell(3, 1), 1);
        s.due("tell(15)", x.tell(15), 8);
        s.due("tell(0)", x.tell(0), 15);
        s.due("the same once more", x.tell(0), 0);
        s.due("each is an act", x.count(8), 5);
        x.layout(0, 3);
        x.tell(1);
        s.due("cells, not addresses", x.read(3), 1);
        MarchTester y = one("k:1", 4, NONE, 0);
        s.due("with a fault, what they were", y.tell(2), 1);
        s.due("with a fault, what they are", y.count(6), 3);
        s.says(18, "NONE, and nothing happens, for others.");
        for (int contents : new int[] {16, -1, 32, LOWEST, HIGHEST}) {
            refused("tell(" + contents + ")", t -> t.tell(contents), NONE);
        }
        y.memory(6);
        s.due("63 of six", y.tell(63), 0);
        s.due("64 of six", y.tell(64), NONE);
        y.memory(2);
        s.due("3 of two", y.tell(3), 0);
        s.due("4 of two", y.tell(4), NONE);
    }

    // ---- promises 19 and 20

    private void writes() {
        s.says(19, "WRITE at an ADDRESS: CELLS then, as bits;");
        MarchTester x = new MarchTester();
        s.due("write(0, 1)", x.write(0, 1), 1);
        s.due("write(3, 1)", x.write(3, 1), 9);
        s.due("write(3, 0)", x.write(3, 0), 1);
        s.due("write(3, 0) again is an act", x.write(3, 0), 1);
        s.due("acts", x.count(8), 4);
        x.layout(1, 3);
        s.due("by the layout", x.write(1, 1), 9);
        s.says(19, "NONE, and nothing happens, without these (0 or 1).");
        for (int address : new int[] {4, -1, 6, LOWEST, HIGHEST}) {
            refused("write(" + address + ", 1)", t -> t.write(address, 1), NONE);
        }
        for (int d : new int[] {2, -1, LOWEST, HIGHEST}) {
            refused("write(0, " + d + ")", t -> t.write(0, d), NONE);
        }
    }

    private void writeRules() {
        s.says(19, "WRITE d to a CELL: it is d; but if it is v, and was D, by the first RULE v D w d it is the D told behind.");
        MarchTester x = one("v0w1:0,v0w1:1,v1w0:1", 4, NONE, 1);
        s.due("the first of two rules", x.write(1, 1), 0);
        s.due("another cell", x.write(0, 1), 1);
        s.due("no rule for 0 on 0", x.write(1, 0), 1);
        x.tell(2);
        s.due("no rule for 1 on 1", x.write(1, 1), 2);
        s.due("0 on 1 stays 1", x.write(1, 0), 2);
        s.due("0 on 0 is 1", one("v0w0:1", 4, NONE, 1).write(1, 0), 2);
        MarchTester y = one("v1w1:0", 4, NONE, 1);
        s.due("1 on 0 is 1", y.write(1, 1), 2);
        s.due("1 on 1 is 0", y.write(1, 1), 0);
        s.says(19, "Then, if it is a, and was D, by the first RULE a D w d v is what it tells (x: the other one).");
        MarchTester z = one("a0w1:x,a0w1:0,a1w0:1,a1w1:0", 4, 0, 2);
        s.due("a's rise turns v to 1", z.write(0, 1), 5);
        s.due("1 on 1 makes it 0", z.write(0, 1), 1);
        s.due("a's fall makes it 1", z.write(0, 0), 4);
        s.due("a's rise turns v to 0", z.write(0, 1), 1);
        s.due("v itself", z.write(2, 1), 5);
        s.due("another cell", z.write(1, 1), 7);
        s.due("a's fall leaves v 1", z.write(0, 0), 6);
        s.due("0 on 0 has no rule", z.write(0, 0), 6);
    }

    private void reads() {
        s.says(20, "READ at an ADDRESS;");
        MarchTester x = new MarchTester();
        x.tell(9);
        int[] want = {1, 0, 0, 1};
        for (int k = 0; k < 4; k++) {
            s.due("read(" + k + ")", x.read(k), want[k]);
        }
        s.due("each is an act", x.count(8), 5);
        x.layout(0, 1);
        s.due("by the layout", x.read(1), 1);
        s.says(20, "NONE, and nothing happens, without it.");
        for (int address : new int[] {4, -1, 6, LOWEST, HIGHEST}) {
            refused("read(" + address + ")", t -> t.read(address), NONE);
        }
    }

    private void readRules() {
        s.says(20, "READ of a CELL tells what it is; but if it is v, and is D, by the first RULE v D r it is the D told behind : then, and the D told behind / is what is told.");
        MarchTester x = one("v0r:1/0,v0r:0/1", 4, NONE, 1);
        s.due("the first of two rules", x.read(1), 0);
        s.due("it is 1 then", x.count(6), 2);
        s.due("no rule for 1", x.read(1), 1);
        s.due("another cell", x.read(0), 0);
        MarchTester y = one("v0r:0/1,v1r:0/0", 4, NONE, 1);
        s.due("0 tells 1", y.read(1), 1);
        s.due("and stays 0", y.count(6), 0);
        y.write(1, 1);
        s.due("1 tells 0", y.read(1), 0);
        s.due("and is 0", y.count(6), 0);
        s.says(20, "Then, if it is a, and is D, by the first RULE a D r v is what it tells.");
        MarchTester z = one("a0r:1,a0r:0,a1r:x", 4, 0, 2);
        s.due("a tells 0", z.read(0), 0);
        s.due("v is 1 by the first rule", z.count(6), 4);
        z.write(0, 1);
        s.due("a tells 1", z.read(0), 1);
        s.due("v is turned to 0", z.count(6), 1);
        s.due("a tells 1 again", z.read(0), 1);
        s.due("v is turned to 1", z.count(6), 5);
        s.due("v tells 1", z.read(2), 1);
        s.due("and stays", z.count(6), 5);
    }

    private void detours() {
        s.says(20, "An OP at an ADDRESS is on its CELL, but: n: is it v, nothing is written, and D is read;");
        MarchTester none = one("n:0", 4, NONE, 1);
        none.tell(3);
        s.due("n 0 reads 0", none.read(1), 0);
        s.due("nothing is written", none.write(1, 0), 3);
        s.due("another cell is", none.write(0, 0), 2);
        MarchTester ones = one("n:1", 4, NONE, 1);
        s.due("n 1 reads 1", ones.read(1), 1);
        s.due("nothing is written", ones.write(1, 1), 0);
        s.says(20, "m: is it a, the OP is on v instead;");
        MarchTester other = one("m", 4, 0, 1);
        s.due("a's address writes v", other.write(0, 1), 2);
        s.due("a's address reads v", other.read(0), 1);
        s.due("v's own address", other.write(1, 0), 0);
        other.tell(1);
        s.due("a's own cell is not read", other.read(0), 0);
        s.due("a's own cell is not written", other.write(0, 0), 1);
        s.says(20, "b: is it a, the OP is on a, then on v; read is 1, if one of both told 1 (D 1), or if both did (D 0).");
        int[] either = {0, 1, 1, 1};
        int[] each = {0, 0, 0, 1};
        for (int contents = 0; contents < 4; contents++) {
            MarchTester or = one("b:1", 4, 0, 1);
            MarchTester and = one("b:0", 4, 0, 1);
            or.tell(contents);
            and.tell(contents);
            s.due("b 1 of " + contents, or.read(0), either[contents]);
            s.due("b 0 of " + contents, and.read(0), each[contents]);
            s.due("v alone at its address, of " + contents, or.read(1), contents >> 1);
            s.due("both are written", or.write(0, 1), 3);
            s.due("v alone is", or.write(1, 0), 1);
            s.due("both are written, b 0", and.write(0, 0), 0);
        }
    }

    // ---- promise 21

    private void runs() {
        s.says(21, "RUN (CHOICE 0 to 7): how many READS FAILED;");
        MarchTester x = Tell.with(Tell.kinds("k:1"), "any(w0);any(r0);any(r0)", "up(w0)");
        s.due("of a sound memory", x.run(0, 7), 0);
        x.put(0, NONE, 0);
        for (int choice = 0; choice <= 7; choice++) {
            s.due("run(0, " + choice + ")", x.run(0, choice), 2);
            s.due("count(7)", x.count(7), 2);
        }
        s.due("without READS", x.run(1, 7), 0);
        s.due("each is an act", x.count(8), 11);
        s.due("cells behind it", x.count(6), 1);
        MarchTester y = Tell.with(Tell.kinds(), "up(w1)");
        y.memory(6);
        y.run(0, 0);
        s.due("cells behind up(w1)", y.count(6), 63);
        s.says(21, "NONE, and nothing happens, without these.");
        for (int march : new int[] {2, -1, 6, LOWEST, HIGHEST}) {
            refused("run(" + march + ", 0)", t -> t.run(march, 0), NONE);
        }
        for (int choice : new int[] {8, -1, LOWEST, HIGHEST}) {
            refused("run(0, " + choice + ")", t -> t.run(0, choice), NONE);
        }
    }

    private void readsFail(MarchTester x, int march, int choice, int... want) {
        x.run(march, choice);
        for (int k = 0; k < want.length; k++) {
            s.due("run(" + march + ", " + choice + "), log(" + k + ", 0)", x.log(k, 0), want[k]);
        }
        s.due("run(" + march + ", " + choice + "), no more", x.log(want.length, 0), -2);
    }

    private void runWays() {
        s.says(21, "A MARCH is gone through ELEMENT by ELEMENT, by its WAY through the ADDRESSES, from 0 (up) or from the last one (down), at each ADDRESS all its OPS; CHOICE tells the way of each any, the first one by its lowest bit (0 up, 1 down).");
        MarchTester x = Tell.with(Tell.kinds("k:1"), "any(w0);any(r0);any(r0)", "up(w0);down(r0);up(r0)", "up(w0);up(r0,r0)",
            "any(w0,r0)");
        x.put(0, NONE, 0);
        int[][] want = {{0, 4}, {0, 4}, {3, 4}, {3, 4}, {0, 7}, {0, 7}, {3, 7}, {3, 7}};
        for (int choice = 0; choice <= 7; choice++) {
            readsFail(x, 0, choice, want[choice]);
        }
        readsFail(x, 1, 0, 3, 4);
        readsFail(x, 1, 7, 3, 4);
        readsFail(x, 3, 0, 0);
        readsFail(x, 3, 1, 3);
        readsFail(x, 3, 6, 0);
        x.put(0, NONE, 3);
        readsFail(x, 1, 0, 0, 7);
        readsFail(x, 2, 0, 6, 7);
        x.memory(2);
        x.put(0, NONE, 0);
        readsFail(x, 1, 0, 1, 2);
        x.memory(6);
        x.put(0, NONE, 0);
        readsFail(x, 1, 0, 5, 6);
        x.layout(0, 5);
        readsFail(x, 1, 0, 0, 11);
        MarchTester y = Tell.with(Tell.kinds("v1w0:1"), "up(w0);up(r0)");
        y.put(0, NONE, 2);
        readsFail(y, 0, 0);
        y.tell(4);
        readsFail(y, 0, 0, 2);
    }

    // ---- promises 22 to 24

    private void layouts() {
        s.says(22, "the LAYOUT gives each ADDRESS another CELL (its own at first).");
        MarchTester x = new MarchTester();
        x.memory(6);
        for (int k = 0; k < 6; k++) {
            s.due("at first, cell(" + k + ", 0)", x.cell(k, 0), k);
        }
        s.says(22, "LAYOUT: two ADDRESSES change their CELLS: the CELL of the first one then;");
        s.due("layout(0, 5)", x.layout(0, 5), 5);
        s.due("layout(5, 1)", x.layout(5, 1), 1);
        s.due("layout(1, 0)", x.layout(1, 0), 5);
        int[] want = {0, 5, 2, 3, 4, 1};
        for (int k = 0; k < 6; k++) {
            s.due("then, cell(" + k + ", 0)", x.cell(k, 0), want[k]);
        }
        s.due("each is an act", x.count(8), 3);
        x.tell(32);
        s.due("cells stay, addresses find them", x.read(1), 1);
        s.says(22, "NONE, and nothing happens, without these (unlike ones).");
        refused("layout(1, 1)", t -> t.layout(1, 1), NONE);
        for (int bad : new int[] {4, -1, 6, LOWEST, HIGHEST}) {
            refused("layout(0, " + bad + ")", t -> t.layout(0, bad), NONE);
            refused("layout(" + bad + ", 0)", t -> t.layout(bad, 0), NONE);
        }
        refused("layout(-1, -1)", t -> t.layout(-1, -1), NONE);
    }

    private void undos() {
        s.says(23, "The last ACT is UNDONE: how many more can be;");
        MarchTester x = new MarchTester();
        x.write(0, 1);
        x.write(1, 1);
        s.due("the first undo", x.undo(), 1);
        s.due("cells then", x.count(6), 1);
        s.due("the second undo", x.undo(), 0);
        s.due("cells then", x.count(6), 0);
        s.says(23, "NONE, and nothing happens, if none can.");
        s.due("the third undo", x.undo(), NONE);
        s.due("of a new object", new MarchTester().undo(), NONE);
        Supplier<MarchTester> emptied = () -> {
            MarchTester t = Tell.rich();
            t.memory(4);
            t.put(0, NONE, 1);
            t.run(0, 0);
            for (int i = 0; i < 2; i++) {
                t.undo();
            }
            return t;
        };
        s.refused("undo of nothing", emptied, t -> t.undo(), NONE);
        x.write(3, 1);
        s.due("an act behind it can be", x.undo(), 0);
    }

    private void undoneActs() {
        s.says(23, "THE LIVE MEMORY. ACTS: PUT a FAULT IN IT (in place of one), HEAL, TELL CELLS, WRITE, READ, RUN a MARCH by a CHOICE, LAYOUT (two ADDRESSES change their CELLS).");
        List<ToLongFunction<MarchTester>> acts = List.of(t -> bit(t.put(0, NONE, 3)), t -> bit(t.heal()), t -> t.tell(6),
            t -> t.write(1, 1), t -> t.read(2), t -> t.run(1, 3), t -> t.layout(1, 3));
        String[] names = {"put", "heal", "tell", "write", "read", "run", "layout"};
        for (int i = 0; i < names.length; i++) {
            MarchTester x = Tell.rich();
            int before = x.count(8);
            acts.get(i).applyAsLong(x);
            s.due(names[i] + " is an act", x.count(8), before + 1);
            s.due(names[i] + " undone", x.undo(), before);
            s.due("all is as ahead of " + names[i], Tell.all(x), Tell.all(Tell.rich()));
        }
        MarchTester y = Tell.rich();
        y.draws(5);
        y.kind();
        Tell.march(y, "up(w0)");
        y.drawn(0, 3);
        y.fits(0);
        y.ask();
        y.least(1);
        s.due("nothing else is an act", y.count(8), 5);
        y.undo();
        s.due("a kind that came stays", y.count(1), 4);
        s.due("a march that came stays", y.count(2), 3);
        s.due("x stays", y.count(9), 5);
    }

    private void lastTwenty() {
        s.says(23, "The last 20 ACTS can be UNDONE, the last first: all is as ahead of it (the LOG, too).");
        for (int many : new int[] {19, 20, 21, 40, 45}) {
            MarchTester x = new MarchTester();
            for (int i = 1; i <= many; i++) {
                x.tell(i % 16);
            }
            int can = Math.min(20, many);
            s.due("acts that can be undone, of " + many, x.count(8), can);
            for (int i = 1; i <= can; i++) {
                s.due("undo " + i + " of " + many, x.undo(), can - i);
                s.due("cells then, of " + many, x.count(6), (many - i) % 16);
            }
            s.due("no more, of " + many, x.undo(), NONE);
        }
        MarchTester y = Tell.with(Tell.kinds("k:1"), "up(w0);up(r0)");
        y.put(0, NONE, 1);
        y.run(0, 0);
        y.put(0, NONE, 3);
        y.run(0, 0);
        y.tell(0);
        s.due("the log of the latest run", y.log(0, 0), 3);
        y.undo();
        s.due("a run that stays", y.log(0, 0), 3);
        y.undo();
        s.due("the log ahead of it", y.log(0, 0), 1);
        s.due("its failures", y.count(7), 1);
        s.due("its fits", y.fits(3), 1);
        y.undo();
        y.undo();
        s.due("no log", y.log(0, 0), -2);
        s.due("no run", y.count(7), NONE);
        MarchTester z = new MarchTester();
        for (int i = 0; i < 30; i++) {
            z.write(i & 3, 1);
            z.undo();
        }
        s.due("acts that were undone", z.count(8), 0);
        for (int i = 0; i < 20; i++) {
            z.tell(i % 16);
        }
        z.undo();
        z.tell(9);
        s.due("an act in place of one undone", z.count(8), 20);
        z.undo();
        s.due("it is undone", z.count(6), 18 % 16);
    }

    private void cells() {
        s.says(24, "CELL of an ADDRESS (what 0), what is in a CELL (1);");
        MarchTester x = new MarchTester();
        x.layout(0, 3);
        x.tell(1);
        s.due("cell(0, 0)", x.cell(0, 0), 3);
        s.due("cell(3, 0)", x.cell(3, 0), 0);
        s.due("cell(0, 1)", x.cell(0, 1), 1);
        s.due("cell(3, 1)", x.cell(3, 1), 0);
        s.says(24, "NONE without these.");
        for (int bad : new int[] {4, 5, -1, LOWEST, HIGHEST}) {
            s.due("cell(" + bad + ", 0)", x.cell(bad, 0), NONE);
            s.due("cell(" + bad + ", 1)", x.cell(bad, 1), NONE);
        }
        for (int bad : new int[] {2, -1, LOWEST, HIGHEST}) {
            s.due("cell(0, " + bad + ")", x.cell(0, bad), NONE);
        }
    }

    // ---- promises 25 and 31

    private void logs() {
        s.says(25, "The k-th (0 the first) of the LOG what 0: number of the READ, 1: ADDRESS; -2: there are not so many (in it).");
        MarchTester x = Tell.with(Tell.kinds("k:1"), "up(w0);up(r0);down(r0)", "up(w1)");
        s.due("without a run", x.log(0, 0), -2);
        x.put(0, NONE, 3);
        x.run(0, 0);
        int[][] want = {{3, 3}, {4, 3}};
        for (int k = 0; k < 2; k++) {
            s.due("log(" + k + ", 0)", x.log(k, 0), want[k][0]);
            s.due("log(" + k + ", 1)", x.log(k, 1), want[k][1]);
        }
        for (int k : new int[] {2, 59, 60, 61, HIGHEST}) {
            s.due("log(" + k + ", 0)", x.log(k, 0), -2);
            s.due("log(" + k + ", 1)", x.log(k, 1), -2);
        }
        s.says(25, "NONE for others, k below 0.");
        for (int bad : new int[] {-1, LOWEST}) {
            s.due("log(" + bad + ", 0)", x.log(bad, 0), NONE);
            s.due("log(" + bad + ", 1)", x.log(bad, 1), NONE);
        }
        for (int bad : new int[] {2, -1, LOWEST, HIGHEST}) {
            s.due("log(0, " + bad + ")", x.log(0, bad), NONE);
            s.due("log(9, " + bad + ")", x.log(9, bad), NONE);
        }
        s.says(25, "A READ FAILS, if it tells another one than its D.");
        MarchTester y = Tell.with(Tell.kinds("v0r:1/0", "v0r:1/1"), "up(w0);up(r0)");
        y.put(0, NONE, 1);
        s.due("turned, but told rightly", y.run(0, 0), 0);
        y.put(1, NONE, 1);
        s.due("told wrongly", y.run(0, 0), 1);
        s.says(25, "READS are numbered from 0 on, as they are done.");
        x.put(0, NONE, 0);
        x.run(0, 0);
        s.due("the first of all", x.log(0, 0), 0);
        s.due("the last of all", x.log(1, 0), 7);
        s.due("its address", x.log(1, 1), 0);
    }

    private void logLimits() {
        s.says(25, "The LOG is of the latest RUN: READS that FAILED, the first 60, each with its number and ADDRESS.");
        MarchTester x = Tell.with(Tell.kinds("k:1"), "up(w0,r0,r0,r0,r0,r0)" + ";up(r0,r0,r0,r0,r0,r0)".repeat(7), "up(w1)");
        x.memory(6);
        x.put(0, NONE, 5);
        // a march has 47 READS of a cell at most, and no other one's fail, so 60 are never there
        s.due("the most that can fail", x.run(0, 0), 47);
        s.due("the first", x.log(0, 0), 25);
        s.due("the last", x.log(46, 0), 281);
        s.due("its address", x.log(46, 1), 5);
        for (int k : new int[] {47, 59, 60}) {
            s.due("log(" + k + ", 0)", x.log(k, 0), -2);
        }
        x.write(5, 0);
        x.layout(0, 5);
        s.due("other acts leave it", x.log(46, 1), 5);
        x.run(0, 0);
        s.due("the latest alone", x.log(46, 1), 0);
        x.run(1, 0);
        s.due("the latest without failures", x.log(0, 0), -2);
        s.due("how many failed in it", x.count(7), 0);
    }

    private void counts() {
        s.says(31, "What 0: CELLS, 1: KINDS, 2: MARCHES, 3: KIND of the FAULT IN IT (NONE), 4: its a, 5: its v (NONE without), 6: CELLS, as bits, 7: READS that FAILED in the latest RUN (NONE without one), 8: ACTS that can be UNDONE, 9: x, 10: bytes of the TAPE.");
        MarchTester x = Tell.with(Tell.kinds("k:1", "a0w1:x"), "up(w0);up(r0)");
        x.memory(5);
        int[] none = {5, 2, 1, NONE, NONE, NONE, 0, NONE, 0, 0, 0};
        for (int what = 0; what <= 10; what++) {
            s.due("count(" + what + ") without a fault", x.count(what), none[what]);
        }
        x.put(1, 4, 0);
        x.run(0, 0);
        x.tell(31);
        x.draws(HIGHEST);
        x.feed(0, 0, 0, 0, 0);
        int[] pair = {5, 2, 1, 1, 4, 0, 31, 0, 3, HIGHEST, 20};
        for (int what = 0; what <= 10; what++) {
            s.due("count(" + what + ") of a pair", x.count(what), pair[what]);
        }
        x.put(0, NONE, 3);
        x.run(0, 0);
        int[] single = {5, 2, 1, 0, NONE, 3, 8, 1, 5, HIGHEST, 20};
        for (int what = 0; what <= 10; what++) {
            s.due("count(" + what + ") of a single one", x.count(what), single[what]);
        }
        s.says(31, "NONE for others.");
        for (int bad : new int[] {11, -1, LOWEST, HIGHEST}) {
            s.due("count(" + bad + ")", x.count(bad), NONE);
        }
    }
}
