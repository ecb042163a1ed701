/** The boundaries of promises 9 to 14: what a march catches, the first escape, two cells, the least march. */
final class CatchEdges {
    private static final int NONE = MarchTester.NONE;
    private static final int[] WRONG = {-1, Integer.MIN_VALUE, Integer.MAX_VALUE};
    /** By a's rise v is 1: this march catches it where a has the lower address. */
    private static final String RISE = "a0w1:1";
    private static final String UPWARD = "up(w0);up(r0,w1)";

    private final Sentences s;

    CatchEdges(Sentences s) {
        this.s = s;
    }

    void all() {
        placements();
        caughtIfAlways();
        caughtCounts();
        escapeOrder();
        escapes();
        onTwoCells();
        coverings();
        leastSets();
        leastOfEachSet();
        leastLimits();
        leastOrder();
        leastStates();
        walks();
    }

    private void escape(MarchTester x, int march, boolean near, int... want) {
        for (int what = 0; what < 4; what++) {
            s.due("escape(" + march + ", 0, " + near + ", " + what + ")", x.escape(march, 0, near, what), want[what]);
        }
    }

    // ---- promises 9 and 10

    private void placements() {
        s.says(9, "PLACEMENTS of a KIND: of a SINGLE one each v; of a PAIR each a and v, unlike CELLS, or NEAR ones alone (whose numbers are one apart); in the order of a, then v.");
        MarchTester x = Tell.with(Tell.kinds(RISE, "k:1"), UPWARD, "up(w0);up(r0)");
        for (int n = 2; n <= 6; n++) {
            x.memory(n);
            s.due("a below v of " + n, x.caught(0, 0, false), n * (n - 1) / 2);
            s.due("a below v of " + n + ", near", x.caught(0, 0, true), n - 1);
            s.due("each v of " + n, x.caught(1, 1, false), n);
            s.due("each v of " + n + ", near", x.caught(1, 1, true), n);
        }
        // addresses 0 to 2 have the cells 2, 0, 1: 0-1 is caught, 0-2 is the first that is not, 1-0 the first near one
        x.memory(3);
        x.layout(0, 1);
        x.layout(0, 2);
        escape(x, 0, false, 2, 0, 0, 0);
        escape(x, 0, true, 0, 1, 0, 0);
    }

    private void caughtIfAlways() {
        s.says(9, "CAUGHT by a MARCH is a PLACEMENT, if with each contents of the CELLS ahead, and each CHOICE, some READ FAILS.");
        String zeros = "up(w0);up(r0)";
        String zerosDown = "down(w0);down(r0)";
        s.due("v 1 ahead alone fails", Tell.with(Tell.kinds("v1w0:1"), zeros).caught(0, 0, false), 0);
        s.due("v 0 ahead alone fails", Tell.with(Tell.kinds("v0w0:1"), zeros).caught(0, 0, false), 0);
        s.due("either fails", Tell.with(Tell.kinds("v0w0:1,v1w0:1"), zeros).caught(0, 0, false), 4);
        s.due("a 0 ahead alone fails", Tell.with(Tell.kinds("a0w0:1"), zerosDown).caught(0, 0, false), 0);
        s.due("a 1 ahead alone fails", Tell.with(Tell.kinds("a1w0:1"), zerosDown).caught(0, 0, false), 0);
        s.due("either fails", Tell.with(Tell.kinds("a0w0:1,a1w0:1"), zerosDown).caught(0, 0, false), 6);
        s.due("one way alone fails", Tell.with(Tell.kinds(RISE), "up(w0);any(r0,w1)").caught(0, 0, false), 0);
        s.due("so with the third any", Tell.with(Tell.kinds(RISE), "any(w0);any(w0);any(r0,w1)").caught(0, 0, false), 0);
        s.due("either way fails", Tell.with(Tell.kinds("k:1"), "any(w0);any(w0);any(r0)").caught(0, 0, false), 4);
        s.due("any that does not matter", Tell.with(Tell.kinds(RISE), "any(w0);up(r0,w1)").caught(0, 0, false), 6);
        s.due("no READ", Tell.with(Tell.kinds("k:1"), "any(w0)").caught(0, 0, false), 0);
        for (int contents = 0; contents < 4; contents++) {
            s.due("all but contents " + contents + " fail", Tell.oneWayOut(contents).caught(0, 0, false), 0);
        }
    }

    private void caughtCounts() {
        s.says(9, "How many PLACEMENTS are CAUGHT, of all or of NEAR ones;");
        MarchTester x = Tell.with(Tell.kinds(RISE, "k:1", "k:0", "m"), UPWARD);
        s.due("some", x.caught(0, 0, false), 6);
        s.due("some near", x.caught(0, 0, true), 3);
        s.due("all", x.caught(0, 1, false), 4);
        s.due("none", x.caught(0, 2, false), 0);
        s.due("all of a pair", x.caught(0, 3, false), 12);
        s.due("all near of a pair", x.caught(0, 3, true), 6);
        x.memory(6);
        x.layout(0, 5);
        // the cells are 5 1 2 3 4 0: from 1 to 4 the near pairs are as before, 5-4 and 1-0 are in order of address
        s.due("near, scrambled", x.caught(0, 0, true), 5);
        s.due("all, scrambled", x.caught(0, 0, false), 15);
        s.says(9, "NONE without these.");
        for (int bad : WRONG) {
            s.due("caught(" + bad + ", 0, false)", x.caught(bad, 0, false), NONE);
            s.due("caught(0, " + bad + ", true)", x.caught(0, bad, true), NONE);
        }
        s.due("caught(1, 0, false)", x.caught(1, 0, false), NONE);
        s.due("caught(0, 4, false)", x.caught(0, 4, false), NONE);
        s.due("caught of nothing told", new MarchTester().caught(0, 0, false), NONE);
    }

    private void escapeOrder() {
        s.says(10, "ESCAPE: the first PLACEMENT that is not CAUGHT, of it the first contents (as bits, CELL 0 the lowest), of these the first CHOICE with no READ that FAILS.");
        escape(Tell.with(Tell.kinds("v1w0:1"), "up(w0);up(r0)"), 0, false, 0, NONE, 0, 0);
        escape(Tell.with(Tell.kinds("v0w0:1"), "up(w0);up(r0)"), 0, false, 0, NONE, 1, 0);
        // v is written first, then a, and v is 1 unless a was 1: cell 0
        escape(Tell.with(Tell.kinds("a0w0:1"), "down(w0);down(r0)"), 0, false, 1, 0, 1, 0);
        // v 0 can't rise, nor does it stay 1 when a rises: both must be 1
        escape(Tell.with(Tell.kinds("v0w1:0,a0w1:0"), "up(w1);up(r1)"), 0, false, 1, 0, 3, 0);
        escape(Tell.with(Tell.kinds(RISE), UPWARD), 0, false, 0, 1, 0, 0);
        escape(Tell.with(Tell.kinds(RISE), "any(w0);any(r0,w1)"), 0, false, 1, 0, 0, 2);
        escape(Tell.with(Tell.kinds(RISE), "any(w0);any(w0);any(r0,w1)"), 0, false, 1, 0, 0, 4);
        // by contents 0 each CHOICE fails; with v 1 the first one that does not is 0
        escape(Tell.with(Tell.kinds("v0w0:1"), "any(w0);any(r0)"), 0, false, 0, NONE, 1, 0);
        for (int contents = 0; contents < 4; contents++) {
            escape(Tell.oneWayOut(contents), 0, false, 1, 0, contents, 0);
        }
        MarchTester x = Tell.with(Tell.kinds("a0w0:1"), "down(w0);down(r0)");
        x.layout(0, 3);
        // cell 0 is at the last address: v 1 is written behind a 0
        escape(x, 0, false, 1, 0, 0, 0);
    }

    private void escapes() {
        s.says(10, "ESCAPE what 0: v, 1: a (NONE of a SINGLE one), 2: contents, 3: CHOICE; -2: all are CAUGHT.");
        MarchTester x = Tell.with(Tell.kinds("k:1", "m", RISE), UPWARD);
        for (int what = 0; what < 4; what++) {
            s.due("all of a single kind, what " + what, x.escape(0, 0, false, what), -2);
            s.due("all near of a single kind, what " + what, x.escape(0, 0, true, what), -2);
            s.due("all of a pair, what " + what, x.escape(0, 1, false, what), -2);
            s.due("all near of a pair, what " + what, x.escape(0, 1, true, what), -2);
        }
        s.due("a of a single kind", Tell.with(Tell.kinds("k:0"), UPWARD).escape(0, 0, false, 1), NONE);
        x.memory(2);
        s.due("v of two cells", x.escape(0, 2, false, 0), 0);
        s.due("a of two cells", x.escape(0, 2, false, 1), 1);
        x.layout(0, 1);
        s.due("v of two cells, scrambled", x.escape(0, 2, true, 0), 1);
        s.due("a of two cells, scrambled", x.escape(0, 2, true, 1), 0);
        s.says(10, "NONE without these.");
        for (int bad : WRONG) {
            s.due("escape(" + bad + ", 2, false, 0)", x.escape(bad, 2, false, 0), NONE);
            s.due("escape(0, " + bad + ", false, 0)", x.escape(0, bad, false, 0), NONE);
            s.due("escape(0, 2, false, " + bad + ")", x.escape(0, 2, false, bad), NONE);
        }
        s.due("escape(1, 2, true, 0)", x.escape(1, 2, true, 0), NONE);
        s.due("escape(0, 3, true, 0)", x.escape(0, 3, true, 0), NONE);
        s.due("escape(0, 2, true, 4)", x.escape(0, 2, true, 4), NONE);
        s.due("what 4 where all are caught", x.escape(0, 0, true, 4), NONE);
        s.due("what -1 where all are caught", x.escape(0, 0, true, -1), NONE);
    }

    // ---- promises 11 and 12

    private void onTwoCells() {
        s.says(11, "ON TWO: with 2 CELLS (LAYOUT its own): 1 if the PLACEMENT v 0 (of a PAIR a 0, v 1) is CAUGHT, and 2 if that of v 1 (a 1, v 0) is.");
        MarchTester x = Tell.with(Tell.kinds(RISE, "k:1"), UPWARD, "up(w0);down(r0,w1)", "up(w0);up(r0,w1,w0);up(r0)", "up(w0)");
        int[][] want = {{1, 3}, {2, 3}, {3, 3}, {0, 0}};
        for (int m = 0; m < 4; m++) {
            s.due("onTwo(" + m + ", 0)", x.onTwo(m, 0), want[m][0]);
            s.due("onTwo(" + m + ", 1)", x.onTwo(m, 1), want[m][1]);
        }
        MarchTester y = Tell.with(Tell.kinds(RISE, "k:1"), UPWARD, "up(w0);down(r0,w1)");
        y.memory(6);
        y.layout(0, 1);
        y.layout(2, 5);
        s.due("of a scrambled memory of six", y.onTwo(0, 0), 1);
        y.memory(2);
        y.layout(0, 1);
        s.due("of a scrambled memory of two", y.onTwo(1, 0), 2);
        s.says(11, "ON TWO, both together;");
        s.due("neither", x.onTwo(3, 0), 0);
        s.due("both", x.onTwo(2, 0), 3);
        s.says(11, "NONE without these.");
        for (int bad : WRONG) {
            s.due("onTwo(" + bad + ", 0)", x.onTwo(bad, 0), NONE);
            s.due("onTwo(0, " + bad + ")", x.onTwo(0, bad), NONE);
        }
        s.due("onTwo(4, 0)", x.onTwo(4, 0), NONE);
        s.due("onTwo(0, 2)", x.onTwo(0, 2), NONE);
    }

    private void coverings() {
        s.says(12, "KINDS, as bits, of which a MARCH catches all PLACEMENTS;");
        MarchTester x = Tell.with(Tell.kinds("k:0", "k:1", RISE, "m", "k:0", "n:0", "v0w0:1", "k:1"), UPWARD, "up(w0);up(r0,w1);up(r1)", "up(w0)");
        // RISE is caught where a is below v, v 0 w 0 : 1 with v 0 ahead alone
        s.due("the last kind, too", x.covers(0), 2 + 8 + 128);
        s.due("covers(1)", x.covers(1), 1 + 2 + 8 + 16 + 32 + 128);
        s.due("none of them", x.covers(2), 0);
        MarchTester all = Tell.with(Tell.kinds("k:1", "k:1", "k:1", "k:1", "k:1", "k:1", "k:1", "k:1"), "up(w0);up(r0)");
        s.due("all eight", all.covers(0), 255);
        s.due("without kinds", Tell.with(Tell.kinds(), UPWARD).covers(0), 0);
        x.memory(2);
        s.due("of two cells", x.covers(0), 2 + 8 + 128);
        s.says(12, "NONE without it.");
        for (int bad : WRONG) {
            s.due("covers(" + bad + ")", x.covers(bad), NONE);
        }
        s.due("covers(3)", x.covers(3), NONE);
        s.due("covers(0) of a new object", new MarchTester().covers(0), NONE);
    }

    // ---- promises 13 and 14

    private void least(int want, String... kinds) {
        s.due("least of " + String.join(" and ", kinds), Tell.with(kinds).least((1 << kinds.length) - 1), want);
    }

    private void leastSets() {
        s.says(13, "LEAST of KINDS, as bits; 0 for none of them;");
        s.due("none of none", new MarchTester().least(0), 0);
        MarchTester x = Tell.with(Tell.kinds("k:1", "k:0", "v0w1:0"));
        s.due("none of three", x.least(0), 0);
        int[] want = {0, 2, 2, 4, 3};
        for (int bits = 1; bits < want.length; bits++) {
            s.due("least(" + bits + ")", x.least(bits), want[bits]);
        }
        s.says(13, "NONE, if others are among them.");
        s.due("the fourth of three", x.least(8), NONE);
        s.due("one of three, and the fourth", x.least(9), NONE);
        s.due("least(-1)", x.least(-1), NONE);
        s.due("the highest bit", x.least(Integer.MIN_VALUE), NONE);
        s.due("the highest bit, and one of three", x.least(Integer.MIN_VALUE + 1), NONE);
        s.due("least(most)", x.least(Integer.MAX_VALUE), NONE);
        s.due("least(1) without kinds", new MarchTester().least(1), NONE);
        Tell.kind(x, "n:0");
        s.due("the fourth, when it is told", x.least(8), 2);
        MarchTester eight = Tell.with(Tell.kinds("k:1", "k:0", "k:1", "k:0", "k:1", "k:0", "k:1", "k:0"));
        s.due("all eight", eight.least(255), 4);
        s.due("the eighth", eight.least(128), 2);
        s.due("the ninth", eight.least(256), NONE);
        s.due("least(257)", eight.least(257), NONE);
    }

    private void leastOfEachSet() {
        s.says(13, "LEAST of KINDS, as bits;");
        String[] kinds = {"a1w0:0", "a0w1:1", "m", "k:0", "a1r:x"};
        MarchTester up = Tell.with(kinds);
        MarchTester down = Tell.with(kinds);
        for (int bits = 1; bits < 32; bits++) {
            up.least(bits);
            down.least(32 - bits);
        }
        for (int bits = 1; bits < 32; bits++) {
            int alone = Tell.with(kinds).least(bits);
            s.due("least(" + bits + ") behind others", up.least(bits), alone);
            s.due("least(" + bits + ") ahead of others", down.least(bits), alone);
        }
        s.due("least(3)", up.least(3), 9);
        s.due("least(4)", up.least(4), 3);
        s.due("least(8)", up.least(8), 2);
    }

    private void leastLimits() {
        s.says(13, "LEAST of a set of KINDS: the fewest OPS of a MARCH of up and down, of ELEMENTS of at most 3 OPS, that catches these ON TWO in both PLACEMENTS.");
        // with 2 OPS at most it would be 8, with 4 it would be 6
        least(7, "a0r:0", "a1r:0");
        // one ELEMENT of 3 OPS; with 2 OPS at most it would be 6
        least(3, "a0r:0,v1w0:1");
        // UPWARD catches one placement with 3
        least(5, RISE);
        least(2, "s0:1");
        least(3, "m");
        s.says(13, "-2: there is none of at most 9 OPS;");
        least(9, "a1w0:0", "a0w1:1");
        least(9, "a1r:1", "a0w0:0");
        // of these, there is one of 10
        least(-2, "a0w0:0", "a0r:0");
        least(-2, "v0r:0/1,a0r:x", "a1w1:1", "a1r:1");
        least(-2, "v0w0:0");
        least(-2, "k:1", "v0w0:0");
        s.says(13, "-3: it is UNKNOWN.");
        least(-3, "a0w1:x", "a1w0:x", "a0w1:0", "a1w0:1", "v0r:1/0", "v1r:0/1", "s0:1", "a0r:x");
        least(-3, "a0w1:x", "s1:1", "a1w0:0");
    }

    /** The whole WALK of a new object's kinds. */
    private void walk(int[] want, String... kinds) {
        MarchTester x = Tell.with(kinds);
        int bits = (1 << kinds.length) - 1;
        String of = " of " + String.join(" and ", kinds);
        s.due("elements" + of, x.walk(bits, NONE), want[want.length - 1] / 100 + 1);
        for (int k = 0; k < want.length; k++) {
            s.due("op " + k + of, x.walk(bits, k), want[k]);
        }
        s.due("behind the last op" + of, x.walk(bits, want.length), -2);
        s.due("it is a march that catches them" + of, isMarchThatCatches(x, bits, want.length), true);
    }

    private static boolean isMarchThatCatches(MarchTester x, int bits, int ops) {
        StringBuilder text = new StringBuilder();
        for (int k = 0; k < ops; k++) {
            int op = x.walk(bits, k);
            boolean begins = k == 0 || x.walk(bits, k - 1) / 100 != op / 100;
            text.append(begins ? (k == 0 ? "" : ");") + (op / 10 % 10 == 1 ? "down(" : "up(") : ",");
            text.append(new String[] {"r0", "r1", "w0", "w1"}[op % 10]);
        }
        int march = Tell.march(x, text + ")");
        for (int k = 0; k < x.count(1); k++) {
            if (x.onTwo(march, k) != 3) {
                return false;
            }
        }
        return march >= 0 && x.ofMarch(march, 1) == x.least(bits);
    }

    private void leastOrder() {
        s.says(14, "STEPS: ELEMENTS of l OPS, in the order of up, then down, then of OPS, one by one, r ahead of w 0 ahead of w 1 (r tells what a sound memory has; none ahead of the first w).");
        // either way would do, and w 0 or w 1: up comes first, and w 0 does
        walk(new int[] {2, 3 + 100, 1 + 200}, "v0w1:0");
        walk(new int[] {2, 100, 203, 301}, "k:1", "k:0");
        walk(new int[] {2, 100, 203, 301}, "k:0", "k:1");
        walk(new int[] {2, 100}, "n:1");
        walk(new int[] {3, 101}, "n:0");
        // one step more or less, or one that goes the other way, and the 1,201st STATE does not come ahead of the end
        least(-3, "a0w0:0", "a1w1:x", "a1w1:1");
        least(-3, "a1w1:0", "v1w0:1,a0w1:x", "s0:0,a0w1:0,v1w1:0,a0w0:0");
        least(-3, "a0w0:x", "v1w1:0,a1r:0,a1w1:0", "a1r:x,a1w0:1,s0:0");
        for (String[] row : WalkRows.ROWS) {
            String[] kinds = row[0].split(" ");
            if (row[1].startsWith("-")) {
                least(Integer.parseInt(row[1]), kinds);
            } else {
                walk(WalkRows.told(row[1]), kinds);
            }
        }
        s.says(14, "The first STATE is that with no OP.");
        s.due("a march of one OP has no READ", Tell.with(Tell.kinds("k:1")).least(1), 2);
        s.says(14, "For C from 1 to 9: for l from 1 to 3: for STATES that came first with C - l OPS, in the order in which they came, for STEPS of l OPS in their order: the STATE behind it comes, if it has not; are all FAILED in it: C is LEAST.");
        // single steps can't tell it: w 0, then at each address r 0, w 1
        walk(new int[] {2, 100, 103}, "m");
        walk(new int[] {2, 100, 103, 102, 200}, RISE);
        walk(new int[] {3, 2, 0}, "a0r:0,v1w0:1");
        walk(new int[] {2, 103, 102, 200, 203, 301, 302, 303, 401}, "a1w0:0", "a0w1:1");
        walk(new int[] {3, 101, 102, 100, 200, 203, 311}, "a0r:0", "a1r:0");
    }

    private void leastStates() {
        s.says(13, "STATES: what a sound memory has (none, 0, 1), and of each KIND of the set, PLACEMENT, contents ahead, both CELLS, if no READ FAILED; else just that one did.");
        // how many STATES come ahead of LEAST hangs on what makes two of them one: here it is the 1,200th
        least(6, "a1r:0", "a1w1:x", "s0:0");
        least(7, "a1r:x", "a0w0:1", "s1:1");
        least(7, "m", "a0w1:0", "a1w1:x", "n:1");
        // contents ahead of which each matters, of either placement
        walk(new int[] {2, 100, 103, 201}, "m", "s0:0,v1w0:1,v0w1:0");
        walk(new int[] {2, 3, 3, 101, 212, 213, 301}, "a0r:x,s0:1,v0w1:0", "v1w1:0", "a0w1:0");
        walk(new int[] {3, 2, 0}, "a1w0:0,s1:1,v1w0:1");
        // with a 0 ahead v is 0 at once, so it can't rise
        walk(new int[] {3, 101}, "a1w1:0,s0:0,v0w1:0");
        s.says(13, "It is UNKNOWN, if the 1,201st STATE would come ahead of it.");
        // here it is the 1,201st itself
        least(7, "a1r:x,a1w1:1", "a1w1:0", "a1w0:0");
        least(9, "a1w0:1", "a1w1:0", "b:1", "s1:0");
        // here it is the 1,202nd
        least(-3, "a0w1:x", "s1:1", "a1w0:0");
        least(-3, "a1w0:1", "k:0,s1:1,s0:0", "s0:0");
        // 1,197 STATES come by 9 OPS, and none is the one
        least(-2, "a1w1:0", "a0w0:0", "a1w1:1");
    }

    private void walks() {
        s.says(14, "The WALK: the ELEMENTS by which it came.");
        walk(new int[] {3, 102, 200, 203, 301, 303, 401, 512, 600}, "a1w0:1", "a1w1:0", "b:1", "s1:0");
        s.says(14, "The WALK of LEAST what NONE: how many ELEMENTS; k (0 and on) its k-th OP: 100 times its ELEMENT, 10 more of one that goes down, and 0 r 0, 1 r 1, 2 w 0, 3 w 1; -2: there are not so many.");
        MarchTester x = Tell.with(Tell.kinds("k:1", "v0w0:0", "a1w0:0", "a0w1:1"));
        s.due("walk(1, NONE)", x.walk(1, NONE), 2);
        s.due("walk(1, 0)", x.walk(1, 0), 2);
        s.due("walk(1, 1)", x.walk(1, 1), 100);
        s.due("walk(1, 2)", x.walk(1, 2), -2);
        s.due("walk(1, most)", x.walk(1, Integer.MAX_VALUE), -2);
        s.due("walk(12, 8), the ninth OP", x.walk(12, 8), 401);
        s.due("walk(12, 9)", x.walk(12, 9), -2);
        s.due("walk(12, 10)", x.walk(12, 10), -2);
        s.says(14, "NONE, if there is no LEAST above 0, or for other k.");
        for (int k : new int[] {NONE, 0, 1, 9}) {
            s.due("walk(0, " + k + "), LEAST is 0", x.walk(0, k), NONE);
            s.due("walk(2, " + k + "), there is none", x.walk(2, k), NONE);
            s.due("walk(16, " + k + "), no such kind", x.walk(16, k), NONE);
            s.due("walk(-1, " + k + ")", x.walk(-1, k), NONE);
            s.due("walk(least, " + k + ")", x.walk(Integer.MIN_VALUE, k), NONE);
        }
        s.due("walk of an UNKNOWN one", Tell.with(Tell.kinds("a0w1:x", "s1:1", "a1w0:0")).walk(7, 0), NONE);
        s.due("elements of an UNKNOWN one", Tell.with(Tell.kinds("a0w1:x", "s1:1", "a1w0:0")).walk(7, NONE), NONE);
        s.due("walk(1, -2)", x.walk(1, -2), NONE);
        s.due("walk(1, least)", x.walk(1, Integer.MIN_VALUE), NONE);
    }
}
