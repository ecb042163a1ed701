/** Each promise of the document by itself, with answers that were worked out by hand. */
public final class Promises {
    private static final String MATS = Tell.MATS;
    private static final int NONE = MarchTester.NONE;

    private static int wrong = 0;
    private static int asked = 0;

    private static void due(int promise, String what, long got, long want) {
        asked++;
        if (got != want) {
            wrong++;
            System.out.println("promise " + promise + ": " + what + " answered " + got + ", due is " + want);
        }
    }

    private static void due(int promise, String what, boolean got, boolean want) {
        due(promise, what, got ? 1 : 0, want ? 1 : 0);
    }

    // ---- helpers

    private static int kind(MarchTester x, String text) {
        return Tell.kind(x, text);
    }

    private static int march(MarchTester x, String text) {
        return Tell.march(x, text);
    }

    private static MarchTester with(String[] kinds, String... marches) {
        return Tell.with(kinds, marches);
    }

    private static String[] kinds(String... texts) {
        return texts;
    }

    // ---- I. texts

    private static void promise1() {
        MarchTester x = new MarchTester();
        int[] want = {4, 0, 0, NONE, NONE, NONE, 0, NONE, 0, 0, 0};
        for (int w = 0; w < want.length; w++) {
            due(1, "count(" + w + ") of a new object", x.count(w), want[w]);
        }
        for (int k = 0; k < 4; k++) {
            due(1, "cell(" + k + ", 0) of a new object", x.cell(k, 0), k);
            due(1, "cell(" + k + ", 1) of a new object", x.cell(k, 1), 0);
        }
        due(1, "undo() of a new object", x.undo(), NONE);
    }

    private static void promise2() {
        MarchTester x = new MarchTester();
        for (int i = 1; i <= 10; i++) {
            due(2, "feed " + i, x.feed(0, -1, 1, Integer.MIN_VALUE, Integer.MAX_VALUE), 20 * i);
        }
        due(2, "feed beyond 200", x.feed(1, 2, 3, 4, 5), NONE);
        due(2, "bytes behind it", x.count(10), 200);
        x.end(181);
        due(2, "feed behind 181", x.feed(1, 2, 3, 4, 5), NONE);
        x.end(180);
        due(2, "feed behind 180", x.feed(1, 2, 3, 4, 5), 200);
        x.end(0);
        // 'k' ':' '1' and a blank, the highest byte first, in each of five numbers
        int rule = 'k' << 24 | ':' << 16 | '1' << 8 | ',';
        x.feed(rule, rule, rule, rule, 0);
        x.end(15);
        due(2, "the bytes' order", x.kind(), 0);
        due(2, "the bytes' order, rules", x.ofKind(0, 0), 4);
    }

    private static void promise3() {
        MarchTester x = new MarchTester();
        due(3, "end(1) of none", x.end(1), NONE);
        due(3, "end(0) of none", x.end(0), 0);
        x.feed('k' << 24 | ':' << 16, 0, 0, 0, 0);
        due(3, "end(21)", x.end(21), NONE);
        due(3, "end(-1)", x.end(-1), NONE);
        due(3, "end(least)", x.end(Integer.MIN_VALUE), NONE);
        due(3, "bytes then", x.count(10), 20);
        due(3, "end(20)", x.end(20), 20);
        due(3, "end(2)", x.end(2), 2);
        x.feed('1' << 24, 0, 0, 0, 0);
        due(3, "end(3)", x.end(3), 3);
        due(3, "what stands behind the end is gone", x.kind(), 0);
    }

    private static void promise4() {
        String[] texts = {"", "v2w1:0", "v0w1:0,", "m,k:1", "k:1,m", "k:1,k:1,k:1,k:1,k:1", "s1:x",
            "k:1,k:1,k:1,k:1,n:0", "k:1,k:1,k:1,k:1,z", "k:1,k:1,k:1,k:1,", "k", "k:", "v0r:1/x", "v0w1:x", "a0r:1/1",
            "m m", "K:1", "b:1,b:1", "n:0,v0w1:0", "a0w1:x,n:0", "k:1;k:1", "x", "v0w", "v0q", "a1r:y", "b", "n:2",
            "k:1\u00ff", "v 0 w 1 0", "b:1,k:1", "n:1,s0:1", "m ,m", "  k:1, q"};
        int[] faults = {1, 9, 57, 19, 35, 130, 25,
            130, 129, 129, 9, 17, 49, 41, 41,
            17, 1, 35, 35, 59, 25, 1, 25, 17, 33, 9, 17,
            25, 65, 35, 35, 27, 57};
        MarchTester x = new MarchTester();
        for (int i = 0; i < texts.length; i++) {
            due(4, "kind \"" + texts[i] + "\"", kind(x, texts[i]), -2 - faults[i]);
            due(4, "bytes behind a fault", x.count(10), 0);
        }
        due(4, "kinds behind faults", x.count(1), 0);
        String[] fine = {"v0w1:0", "v1 r : 0 / 1", "a0w1:x", "a1r:x,s0:1", "k:1,k:0,v0w0:1,a0r:0", "n:0", "m"};
        for (int i = 0; i < fine.length; i++) {
            due(4, "kind \"" + fine[i] + "\"", kind(x, fine[i]), i);
        }
        StringBuilder wide = new StringBuilder("k");
        while (wide.length() < 99) {
            wide.append(' ');
        }
        wide.append(":1");
        due(4, "101 bytes", kind(x, wide.toString()), NONE);
        due(4, "101 bytes stay", x.count(10), 101);
        x.end(0);
        wide.deleteCharAt(1);
        due(4, "100 bytes", kind(x, wide.toString()), 7);
        due(4, "the ninth kind", kind(x, "b:1"), NONE);
        due(4, "the ninth kind's bytes stay", x.count(10), 3);
        due(4, "kinds then", x.count(1), 8);
    }

    private static String times(String text, int n) {
        return text.repeat(n);
    }

    private static void promise5() {
        String[] texts = {"", "up", "up()", "up(r0)", "up(w0,r1)", "up(w0,w0,w0,w0,w0,w0,w0)",
            "any(w0);any(w0);any(w0);any(w0)", "up(w0)x", "left(w0)", times("up(w0);", 8) + "up(w0)",
            times("up(w0);", 8) + "left(w0)", times("up(w0);", 8), "up(w0,w0,w0,w0,w0,w0,r1)",
            "up(w0,w0,w0,w0,w0,w0,x1)", "up(w0);", "up(w2)", "up(w0", "up(w0,", "up(w0,)", "Up(w0)", "up w0)",
            "up(w0);up(w1);down(r0)", "up(w0)  ;  down(w1,r1) ; any(r1,r0)", times("any(w0);", 3) + "up(w0);any(w0)",
            "(w0)", "up(w0),up(w0)"};
        int[] faults = {1, 17, 25, 28, 52, 171,
            194, 49, 1, 450,
            449, 449, 171,
            169, 57, 33, 41, 49, 49, 1, 25,
            156, 8 * 32 + 4, 8 * 31 + 2,
            1, 49};
        MarchTester x = new MarchTester();
        for (int i = 0; i < texts.length; i++) {
            due(5, "march \"" + texts[i] + "\"", march(x, texts[i]), -2 - faults[i]);
            due(5, "bytes behind a fault", x.count(10), 0);
        }
        due(5, "marches behind faults", x.count(2), 0);
        StringBuilder wide = new StringBuilder("up");
        while (wide.length() < 196) {
            wide.append(' ');
        }
        wide.append("(w1)");
        String[] fine = {MATS, "up(w1);up(r1,r1)", times("up(w0);", 7) + "up(w0,w1,r1,r1,w0,r0)", wide.toString(),
            times("any(w0);", 3) + "down(r0)"};
        for (int i = 0; i < fine.length; i++) {
            due(5, "march \"" + fine[i] + "\"", march(x, fine[i]), i);
        }
        due(5, "the sixth march", march(x, "down ( w 0 , r 0 )"), 5);
        due(5, "the seventh march", march(x, "up(w0)"), NONE);
        due(5, "the seventh march's bytes stay", x.count(10), 6);
        due(5, "marches then", x.count(2), 6);
    }

    private static void promise6() {
        MarchTester x = with(kinds("v0w1:0", "a0w1:x,k:1,s0:1", "n:1", "m"));
        int[][] want = {{1, 0, 4, 4}, {3, 1, 12, 6}, {1, 0, 4, 4}, {1, 1, 12, 6}};
        for (int k = 0; k < 4; k++) {
            for (int w = 0; w < 4; w++) {
                due(6, "ofKind(" + k + ", " + w + ")", x.ofKind(k, w), want[k][w]);
            }
            due(6, "ofKind(" + k + ", 4)", x.ofKind(k, 4), NONE);
            due(6, "ofKind(" + k + ", -1)", x.ofKind(k, -1), NONE);
        }
        due(6, "ofKind(4, 0)", x.ofKind(4, 0), NONE);
        due(6, "ofKind(-1, 0)", x.ofKind(-1, 0), NONE);
        due(6, "ofKind(least, 0)", x.ofKind(Integer.MIN_VALUE, 0), NONE);
        x.memory(6);
        due(6, "placements of six cells", x.ofKind(1, 2), 30);
        due(6, "near ones of six cells", x.ofKind(1, 3), 10);
        x.memory(2);
        due(6, "placements of two cells", x.ofKind(3, 2), 2);
        due(6, "near ones of two cells", x.ofKind(3, 3), 2);
        due(6, "single ones of two cells", x.ofKind(0, 2), 2);
    }

    private static void promise7() {
        MarchTester x = with(kinds(), MATS, "up(w1);any(r1,r1);any(w0,w1)");
        int[][] want = {{3, 5, 2, 1, 0}, {3, 5, 2, 2, 1}};
        for (int m = 0; m < 2; m++) {
            for (int w = 0; w < 5; w++) {
                due(7, "ofMarch(" + m + ", " + w + ")", x.ofMarch(m, w), want[m][w]);
            }
            due(7, "ofMarch(" + m + ", 5)", x.ofMarch(m, 5), NONE);
            due(7, "ofMarch(" + m + ", -1)", x.ofMarch(m, -1), NONE);
        }
        due(7, "ofMarch(2, 0)", x.ofMarch(2, 0), NONE);
        due(7, "ofMarch(-1, 0)", x.ofMarch(-1, 0), NONE);
    }

    private static void promise8() {
        MarchTester x = with(kinds(), MATS, "any(w1,r1,w0,r0,r0,w1)");
        int[][] want = {{2, 1, 2, NONE}, {0, 2, 0, 3, NONE}, {1, 2, 1, 2, NONE}};
        for (int e = 0; e < 3; e++) {
            for (int w = 0; w < want[e].length; w++) {
                due(8, "element(0, " + e + ", " + w + ")", x.element(0, e, w), want[e][w]);
            }
        }
        int[] long6 = {2, 6, 3, 1, 2, 0, 0, 3, NONE};
        for (int w = 0; w < long6.length; w++) {
            due(8, "element(1, 0, " + w + ")", x.element(1, 0, w), long6[w]);
        }
        due(8, "element(0, 3, 0)", x.element(0, 3, 0), NONE);
        due(8, "element(0, -1, 0)", x.element(0, -1, 0), NONE);
        due(8, "element(2, 0, 0)", x.element(2, 0, 0), NONE);
        due(8, "element(0, 0, -1)", x.element(0, 0, -1), NONE);
        due(8, "element(0, 0, most)", x.element(0, 0, Integer.MAX_VALUE), NONE);
    }

    // ---- III. catching

    /** Kinds: 0 stuck at 1, 1 up fails, 2 down fails, 3 a's rise makes v 1, 4 stuck at 0. */
    private static MarchTester catching() {
        return with(kinds("k:1", "v0w1:0", "v1w0:1", "a0w1:1", "k:0"), MATS, "any(w0);any(r0,w1)", "up(w1);up(r1)");
    }

    private static void promise9() {
        MarchTester x = catching();
        int[] all = {4, 4, 0, 6, 4};
        int[] near = {4, 4, 0, 3, 4};
        for (int k = 0; k < 5; k++) {
            due(9, "caught(0, " + k + ", false)", x.caught(0, k, false), all[k]);
            due(9, "caught(0, " + k + ", true)", x.caught(0, k, true), near[k]);
        }
        due(9, "caught one way alone", x.caught(1, 3, false), 0);
        due(9, "caught from contents 0 alone", x.caught(2, 1, false), 0);
        due(9, "caught(3, 0, false)", x.caught(3, 0, false), NONE);
        due(9, "caught(0, 5, false)", x.caught(0, 5, false), NONE);
        due(9, "caught(-1, -1, true)", x.caught(-1, -1, true), NONE);
        // addresses 0 1 2 3 have the cells 2 1 0 3: of the near pairs in order of address, these are 1-0, 2-1 and 2-3
        x.layout(0, 2);
        due(9, "caught near, scrambled", x.caught(0, 3, true), 3);
        due(9, "caught, scrambled", x.caught(0, 3, false), 6);
        x.memory(6);
        due(9, "caught of six", x.caught(0, 3, false), 15);
        due(9, "caught near of six", x.caught(0, 3, true), 5);
        due(9, "caught single of six", x.caught(0, 0, true), 6);
    }

    private static void escapes(String call, int[] got, int... want) {
        for (int w = 0; w < 4; w++) {
            due(10, call + " what " + w, got[w], want[w]);
        }
    }

    private static int[] escape(MarchTester x, int march, int kind, boolean near) {
        return new int[] {x.escape(march, kind, near, 0), x.escape(march, kind, near, 1), x.escape(march, kind, near, 2),
            x.escape(march, kind, near, 3)};
    }

    private static void promise10() {
        MarchTester x = catching();
        escapes("stuck at 1", escape(x, 0, 0, false), -2, -2, -2, -2);
        escapes("down fails", escape(x, 0, 2, false), 0, NONE, 0, 0);
        escapes("a's rise", escape(x, 0, 3, false), 0, 1, 0, 0);
        escapes("a's rise, near", escape(x, 0, 3, true), 0, 1, 0, 0);
        // a 0, v 1 is missed when the second any goes down
        escapes("a's rise, any", escape(x, 1, 3, false), 1, 0, 0, 2);
        // from v 0 the 0 that stays is read; from v 1 nothing is
        escapes("up fails, no rise", escape(x, 2, 1, false), 0, NONE, 1, 0);
        x.layout(0, 3);
        escapes("a's rise, scrambled", escape(x, 0, 3, false), 1, 0, 0, 0);
        due(10, "escape what 4", x.escape(0, 2, false, 4), NONE);
        due(10, "escape what -1", x.escape(0, 0, false, -1), NONE);
        due(10, "escape without a march", x.escape(3, 0, false, 0), NONE);
        due(10, "escape without a kind", x.escape(0, 5, false, 0), NONE);
        // a rise of a or of v makes v 0, so both must be 1 ahead
        MarchTester y = with(kinds("v0w1:0,a0w1:0"), "up(w1);up(r1)");
        escapes("contents of both cells", escape(y, 0, 0, false), 1, 0, 3, 0);
        // read ahead of v, a 0 that is read mends v
        MarchTester z = with(kinds("v0w0:1,v1w0:1,a0r:0"), "down(w0);down(r0)");
        escapes("a lower than v is caught", escape(z, 0, 0, false), 0, 1, 0, 0);
    }

    private static void promise11() {
        MarchTester x = catching();
        int[] want = {3, 3, 0, 1, 3};
        for (int k = 0; k < 5; k++) {
            due(11, "onTwo(0, " + k + ")", x.onTwo(0, k), want[k]);
        }
        x.layout(0, 1);
        x.memory(6);
        due(11, "onTwo of its own two cells", x.onTwo(0, 3), 1);
        MarchTester y = with(kinds("a0w1:1"), "down(w0);down(r0,w1)");
        due(11, "onTwo down", y.onTwo(0, 0), 2);
        due(11, "onTwo(0, 5)", x.onTwo(0, 5), NONE);
        due(11, "onTwo(3, 0)", x.onTwo(3, 0), NONE);
        due(11, "onTwo(-1, 0)", x.onTwo(-1, 0), NONE);
    }

    private static void promise12() {
        MarchTester x = catching();
        due(12, "covers(0)", x.covers(0), 1 + 2 + 16);
        due(12, "covers(1)", x.covers(1), 1);
        due(12, "covers(2)", x.covers(2), 16);
        due(12, "covers(3)", x.covers(3), NONE);
        due(12, "covers(-1)", x.covers(-1), NONE);
        due(12, "covers without kinds", with(kinds(), MATS).covers(0), 0);
    }

    private static void promise13() {
        MarchTester x = with(kinds("k:1", "k:0", "v0w1:0", "v0w0:0"));
        due(13, "least(0)", x.least(0), 0);
        due(13, "least of stuck at 1", x.least(1), 2);
        due(13, "least of stuck at 0", x.least(2), 2);
        due(13, "least of both", x.least(3), 4);
        // w 0, w 1, r 1: it is read as 0 from either contents
        due(13, "least of up fails", x.least(4), 3);
        due(13, "least of no fault at all", x.least(8), -2);
        due(13, "least of some with no fault at all", x.least(9), -2);
        due(13, "least(16)", x.least(16), NONE);
        due(13, "least(-1)", x.least(-1), NONE);
        due(13, "least(least)", x.least(Integer.MIN_VALUE), NONE);
        kind(x, "m");
        due(13, "least of a kind that came", x.least(16) > 0, true);
        MarchTester y = with(kinds("a0w1:x", "a1w0:x", "a0w1:0", "a1w0:1", "v0r:1/0", "v1r:0/1", "s0:1", "a0r:x"));
        due(13, "least of many", y.least(255), -3);
        due(13, "least without kinds", new MarchTester().least(1), NONE);
    }

    private static void promise14() {
        MarchTester x = with(kinds("k:1", "k:0", "v0w1:0", "v0w0:0"));
        int[] one = {2, 2, 100, -2};
        int[] two = {2, 3, 101, -2};
        for (int k = -1; k < 3; k++) {
            due(14, "walk(1, " + k + ")", x.walk(1, k), one[k + 1]);
            due(14, "walk(2, " + k + ")", x.walk(2, k), two[k + 1]);
        }
        // up(w0), up(w1), up(r1) by single steps come ahead of longer ones
        int[] three = {3, 2, 103, 201, -2};
        for (int k = -1; k < 4; k++) {
            due(14, "walk(4, " + k + ")", x.walk(4, k), three[k + 1]);
        }
        due(14, "walk(1, -2)", x.walk(1, -2), NONE);
        due(14, "walk(1, most)", x.walk(1, Integer.MAX_VALUE), -2);
        due(14, "walk(0, 0)", x.walk(0, 0), NONE);
        due(14, "walk of none", x.walk(8, 0), NONE);
        due(14, "walk(16, 0)", x.walk(16, 0), NONE);
        due(14, "walk(-1, -1)", x.walk(-1, -1), NONE);
    }

    // ---- IV. the live memory

    private static void promise15() {
        MarchTester x = with(kinds("k:1"), MATS);
        x.put(0, NONE, 2);
        x.run(0, 0);
        x.layout(0, 1);
        x.draws(77);
        for (int n : new int[] {1, 7, 0, -1, Integer.MIN_VALUE, Integer.MAX_VALUE}) {
            due(15, "memory(" + n + ")", x.memory(n), false);
        }
        due(15, "nothing happened", x.count(8), 3);
        due(15, "memory(6)", x.memory(6), true);
        int[] want = {6, 1, 1, NONE, NONE, NONE, 0, NONE, 0, 77, 0};
        for (int w = 0; w < want.length; w++) {
            due(15, "count(" + w + ") of a new memory", x.count(w), want[w]);
        }
        due(15, "its layout", x.cell(0, 0), 0);
        due(15, "its log", x.log(0, 0), -2);
        due(15, "nothing to undo", x.undo(), NONE);
        due(15, "fits of it", x.fits(0), NONE);
        due(15, "memory(2)", x.memory(2), true);
        due(15, "its last cell", x.cell(1, 0), 1);
        due(15, "no third cell", x.cell(2, 0), NONE);
    }

    private static void promise16() {
        MarchTester x = with(kinds("k:1", "s1:0,s0:1", "a0w1:x"));
        due(16, "put single with a", x.put(0, 0, 2), false);
        due(16, "put pair without a", x.put(1, NONE, 2), false);
        due(16, "put pair on one cell", x.put(1, 2, 2), false);
        due(16, "put beyond", x.put(0, NONE, 4), false);
        due(16, "put below", x.put(0, NONE, -1), false);
        due(16, "put a beyond", x.put(1, 4, 0), false);
        due(16, "put no kind", x.put(3, NONE, 0), false);
        due(16, "put kind -1", x.put(-1, NONE, 0), false);
        due(16, "nothing happened", x.count(8), 0);
        due(16, "put stuck at 1", x.put(0, NONE, 2), true);
        due(16, "it holds at once", x.count(6), 4);
        due(16, "its kind", x.count(3), 0);
        due(16, "its a", x.count(4), NONE);
        due(16, "its v", x.count(5), 2);
        due(16, "put in place of it", x.put(1, 2, 0), true);
        due(16, "a 1: v 0", x.count(6), 4);
        due(16, "put the other way", x.put(1, 3, 0), true);
        due(16, "a 0: v 1", x.count(6), 5);
        due(16, "its a then", x.count(4), 3);
        due(16, "three acts", x.count(8), 3);
    }

    private static void promise17() {
        MarchTester x = with(kinds("k:1"));
        due(17, "heal nothing", x.heal(), false);
        due(17, "no act", x.count(8), 0);
        x.put(0, NONE, 1);
        due(17, "heal", x.heal(), true);
        due(17, "no fault", x.count(3), NONE);
        due(17, "no v", x.count(5), NONE);
        due(17, "cells stay", x.count(6), 2);
        due(17, "writes are sound", x.write(1, 0), 0);
        due(17, "heal again", x.heal(), false);
    }

    private static void promise18() {
        MarchTester x = with(kinds("s1:0", "k:0,s0:1"));
        due(18, "tell(15)", x.tell(15), 0);
        due(18, "tell(16)", x.tell(16), NONE);
        due(18, "tell(-1)", x.tell(-1), NONE);
        due(18, "tell(10)", x.tell(10), 15);
        x.put(0, 0, 1);
        due(18, "tell(15) with a fault", x.tell(15), 10);
        due(18, "v is 0 while a is 1", x.count(6), 13);
        due(18, "tell(2)", x.tell(2), 13);
        due(18, "v is as told while a is 0", x.count(6), 2);
        x.put(1, 0, 1);
        x.tell(3);
        due(18, "k alone while a is 1", x.count(6), 1);
        x.tell(0);
        due(18, "s behind k", x.count(6), 2);
    }

    private static void promise19() {
        MarchTester x = with(kinds("v0w1:0,v0w1:1", "a0w1:x,a1w0:0", "n:1", "m", "b:1", "v1w1:0"));
        due(19, "write(0, 1)", x.write(0, 1), 1);
        due(19, "write(3, 1)", x.write(3, 1), 9);
        due(19, "write(0, 0)", x.write(0, 0), 8);
        due(19, "write(4, 0)", x.write(4, 0), NONE);
        due(19, "write(-1, 0)", x.write(-1, 0), NONE);
        due(19, "write(0, 2)", x.write(0, 2), NONE);
        due(19, "write(0, -1)", x.write(0, -1), NONE);
        due(19, "three acts", x.count(8), 3);
        x.memory(4);
        x.put(0, NONE, 1);
        due(19, "the first rule alone", x.write(1, 1), 0);
        x.tell(2);
        due(19, "no rule for 1", x.write(1, 1), 2);
        x.put(5, NONE, 1);
        due(19, "1 again is 0", x.write(1, 1), 0);
        due(19, "1 then stays", x.write(1, 1), 2);
        x.tell(0);
        x.put(1, 0, 1);
        due(19, "a's rise turns v", x.write(0, 1), 3);
        due(19, "1 on 1 does not", x.write(0, 1), 3);
        due(19, "a's fall makes v 0", x.write(0, 0), 0);
        x.put(2, NONE, 2);
        due(19, "nothing is written", x.write(2, 1), 0);
        x.put(3, 1, 3);
        due(19, "on v instead", x.write(1, 1), 8);
        due(19, "on v itself", x.write(3, 0), 0);
        x.put(4, 0, 1);
        due(19, "on both", x.write(0, 1), 3);
        due(19, "on v alone", x.write(1, 0), 1);
        x.layout(0, 2);
        due(19, "by the layout", x.write(2, 0), 0);
        due(19, "address 0 has cell 2", x.write(0, 1), 4);
    }

    private static void promise20() {
        MarchTester x = with(kinds("v1r:0/1", "v0r:1/1", "a1r:x,a0r:1", "n:0", "m", "b:1", "b:0", "v0r:0/1"));
        x.tell(5);
        due(20, "read(0)", x.read(0), 1);
        due(20, "read(1)", x.read(1), 0);
        due(20, "read(4)", x.read(4), NONE);
        due(20, "read(-1)", x.read(-1), NONE);
        due(20, "a read is an act", x.count(8), 3);
        x.put(0, NONE, 0);
        due(20, "1 is told", x.read(0), 1);
        due(20, "0 is there then", x.count(6), 4);
        due(20, "0 is told", x.read(0), 0);
        x.put(1, NONE, 0);
        due(20, "wrong, and turned", x.read(0), 1);
        due(20, "turned", x.count(6), 5);
        x.put(7, NONE, 1);
        due(20, "wrong", x.read(1), 1);
        due(20, "not turned", x.count(6), 5);
        x.put(2, 0, 1);
        due(20, "a is told", x.read(0), 1);
        due(20, "v is turned", x.count(6), 7);
        x.read(0);
        due(20, "v is turned back", x.count(6), 5);
        x.write(0, 0);
        due(20, "a 0 is told", x.read(0), 0);
        due(20, "v is 1", x.count(6), 6);
        x.put(3, NONE, 1);
        due(20, "no cell is 0", x.read(1), 0);
        x.put(4, 0, 1);
        due(20, "v instead", x.read(0), 1);
        x.put(5, 0, 1);
        due(20, "one of both", x.read(0), 1);
        x.put(6, 0, 1);
        due(20, "not both", x.read(0), 0);
        x.layout(0, 1);
        due(20, "by the layout", x.read(0), 1);
    }

    private static void promise21() {
        MarchTester x = with(kinds("k:1", "k:0", "a0w1:1"), MATS, "any(w0);any(r0,w1)");
        due(21, "run without a fault", x.run(0, 7), 0);
        due(21, "cells behind it", x.count(6), 0);
        x.put(0, NONE, 2);
        due(21, "stuck at 1", x.run(0, 0), 1);
        due(21, "its READ", x.log(0, 0), 2);
        due(21, "its ADDRESS", x.log(0, 1), 2);
        x.put(1, NONE, 2);
        due(21, "stuck at 0", x.run(0, 0), 1);
        due(21, "its READ", x.log(0, 0), 5);
        due(21, "its ADDRESS", x.log(0, 1), 2);
        x.put(2, 1, 3);
        due(21, "up", x.run(1, 0), 1);
        due(21, "up, READ", x.log(0, 0), 3);
        due(21, "down", x.run(1, 2), 0);
        x.put(2, 3, 1);
        due(21, "up, the other way", x.run(1, 1), 0);
        due(21, "down, the other way", x.run(1, 2), 1);
        due(21, "down, READ", x.log(0, 0), 2);
        due(21, "down, ADDRESS", x.log(0, 1), 1);
        int acts = x.count(8);
        due(21, "run(2, 0)", x.run(2, 0), NONE);
        due(21, "run(-1, 0)", x.run(-1, 0), NONE);
        due(21, "run(0, 8)", x.run(0, 8), NONE);
        due(21, "run(0, -1)", x.run(0, -1), NONE);
        due(21, "no act", x.count(8), acts);
        due(21, "the latest stays", x.count(7), 1);
    }

    private static void promise22() {
        MarchTester x = new MarchTester();
        x.tell(1);
        due(22, "layout(0, 2)", x.layout(0, 2), 2);
        due(22, "layout(0, 1)", x.layout(0, 1), 1);
        int[] want = {1, 2, 0, 3};
        for (int k = 0; k < 4; k++) {
            due(22, "cell(" + k + ", 0)", x.cell(k, 0), want[k]);
        }
        due(22, "cells stay", x.count(6), 1);
        due(22, "read of cell 0", x.read(2), 1);
        due(22, "layout(1, 1)", x.layout(1, 1), NONE);
        due(22, "layout(0, 4)", x.layout(0, 4), NONE);
        due(22, "layout(-1, 0)", x.layout(-1, 0), NONE);
        due(22, "acts", x.count(8), 4);
    }

    private static void promise23() {
        MarchTester x = with(kinds("k:1", "a0w1:x"), MATS);
        due(23, "nothing to undo", x.undo(), NONE);
        x.tell(9);
        x.put(0, NONE, 1);
        x.run(0, 0);
        x.layout(0, 1);
        x.put(1, 2, 3);
        x.run(0, 0);
        x.heal();
        due(23, "heal undone", x.undo(), 6);
        due(23, "the fault is back", x.count(3), 1);
        due(23, "its a is back", x.count(4), 2);
        due(23, "run undone", x.undo(), 5);
        due(23, "the log is back", x.log(0, 0), 1);
        due(23, "the number is back", x.count(7), 1);
        due(23, "put undone", x.undo(), 4);
        due(23, "the fault ahead is back", x.count(3), 0);
        due(23, "layout undone", x.undo(), 3);
        due(23, "the layout is back", x.cell(0, 0), 0);
        due(23, "run undone", x.undo(), 2);
        due(23, "no run", x.count(7), NONE);
        due(23, "no log", x.log(0, 0), -2);
        due(23, "no fits", x.fits(0), NONE);
        due(23, "cells are back", x.count(6), 11);
        due(23, "put undone", x.undo(), 1);
        due(23, "cells are as told", x.count(6), 9);
        due(23, "tell undone", x.undo(), 0);
        due(23, "cells are 0", x.count(6), 0);
        due(23, "nothing to undo", x.undo(), NONE);
        for (int i = 1; i <= 25; i++) {
            x.tell(i % 16);
        }
        due(23, "acts at most", x.count(8), 20);
        for (int i = 19; i >= 0; i--) {
            due(23, "undo", x.undo(), i);
            due(23, "cells then", x.count(6), (i + 5) % 16);
        }
        due(23, "nothing more", x.undo(), NONE);
        due(23, "kinds stay", x.count(1), 2);
    }

    private static void promise24() {
        MarchTester x = new MarchTester();
        x.layout(1, 3);
        x.tell(8);
        due(24, "cell(1, 0)", x.cell(1, 0), 3);
        due(24, "cell(1, 1)", x.cell(1, 1), 0);
        due(24, "cell(3, 0)", x.cell(3, 0), 1);
        due(24, "cell(3, 1)", x.cell(3, 1), 1);
        due(24, "cell(4, 0)", x.cell(4, 0), NONE);
        due(24, "cell(-1, 1)", x.cell(-1, 1), NONE);
        due(24, "cell(0, 2)", x.cell(0, 2), NONE);
        due(24, "cell(0, -1)", x.cell(0, -1), NONE);
    }

    private static void promise25() {
        MarchTester x = with(kinds("k:1"), "up(w0);up(r0,r0);down(r0)");
        due(25, "log without a run", x.log(0, 0), -2);
        x.put(0, NONE, 1);
        x.run(0, 0);
        int[] numbers = {2, 3, 10};
        for (int k = 0; k < 3; k++) {
            due(25, "log(" + k + ", 0)", x.log(k, 0), numbers[k]);
            due(25, "log(" + k + ", 1)", x.log(k, 1), 1);
        }
        due(25, "log(3, 0)", x.log(3, 0), -2);
        due(25, "log(most, 1)", x.log(Integer.MAX_VALUE, 1), -2);
        due(25, "log(-1, 0)", x.log(-1, 0), NONE);
        due(25, "log(0, 2)", x.log(0, 2), NONE);
        due(25, "log(0, -1)", x.log(0, -1), NONE);
        due(25, "log(9, 2)", x.log(9, 2), NONE);
        x.layout(1, 2);
        x.run(0, 0);
        due(25, "log by the layout", x.log(0, 0), 4);
        due(25, "log by the layout, ADDRESS", x.log(0, 1), 2);
        // six elements of six READS each at one address, all of them wrong
        MarchTester y = with(kinds("k:1"), "up(w0);" + times("up(r0,r0,r0,r0,r0,r0);", 6) + "up(r0)");
        y.memory(6);
        y.put(0, NONE, 5);
        due(25, "many", y.run(0, 0), 37);
        due(25, "the last of them", y.log(36, 0), 221);
        due(25, "no more of them", y.log(37, 0), -2);
    }

    private static void promise26() {
        MarchTester x = with(kinds("k:1", "k:0", "a0w1:1", "v1w0:1"), MATS);
        due(26, "fits without a run", x.fits(0), NONE);
        x.put(0, NONE, 2);
        x.run(0, 0);
        // stuck at 1 in 2; a 0 or 1 whose rise makes v 2 a 1; v 2 that was 1 and can't fall
        due(26, "fits(0)", x.fits(0), 4);
        due(26, "fits(1)", x.fits(1), 0);
        due(26, "fits(2)", x.fits(2), NONE);
        due(26, "fits(3)", x.fits(3), 2);
        due(26, "fits(4)", x.fits(4), NONE);
        due(26, "fits(-1)", x.fits(-1), NONE);
        x.layout(0, 3);
        // cell 3 is at address 0 now, so it rises ahead of 2, and 0 does not
        due(26, "fits by the layout", x.fits(0), 4);
        MarchTester y = with(kinds("a0w1:1"), MATS);
        y.run(0, 0);
        // none fails where v is ahead of a
        due(26, "fits of no failure", y.fits(0), 6);
        due(26, "its first a", y.fits(2), 1);
        due(26, "its first v", y.fits(3), 0);
        MarchTester z = with(kinds("k:1"), "up(w0);up(r0)");
        z.run(0, 0);
        due(26, "no fits", z.fits(0), 0);
        due(26, "no first one", z.fits(1), -2);
        due(26, "no first one", z.fits(3), -2);
        due(26, "fits without kinds", runWithoutKinds().fits(0), 0);
    }

    private static MarchTester runWithoutKinds() {
        MarchTester x = with(kinds(), MATS);
        x.run(0, 0);
        return x;
    }

    private static void promise27() {
        MarchTester x = with(kinds("k:1", "a0w1:1", "v1w0:1"), MATS, "up(w0);up(r0)", "up(w1);up(w0);up(r0)", "up(w1)");
        due(27, "parts without a run", x.parts(0), NONE);
        x.put(0, NONE, 2);
        x.run(0, 0);
        due(27, "fits", x.fits(0), 4);
        // MATS from 0: k:1 and both a fail at READ 2; v 1 w 0 does not fail
        due(27, "parts(0)", x.parts(0), 3);
        // k:1 alone fails
        due(27, "parts(1)", x.parts(1), 3);
        // k:1, and v that can't fall, fail alike; a's rise makes v 1, which is written ahead of READ
        due(27, "parts(2)", x.parts(2), 2);
        due(27, "parts(3)", x.parts(3), 4);
        due(27, "parts(4)", x.parts(4), NONE);
        due(27, "parts(-1)", x.parts(-1), NONE);
        due(27, "parts without fits", runWithoutKinds().parts(0), 0);
    }

    private static void promise28() {
        MarchTester x = with(kinds("k:1", "a0w1:1", "v1w0:1"), "up(w1)", MATS, "up(w0);up(r0)", "up(w1);up(w0);up(r0)",
            "up(w1);down(w0);up(r0)");
        due(28, "ask without a run", x.ask(), NONE);
        x.put(0, NONE, 2);
        x.run(1, 0);
        due(28, "ask", x.ask(), 3);
        x.undo();
        due(28, "ask with the run undone", x.ask(), NONE);
        due(28, "ask without fits", runWithoutKinds().ask(), 0);
    }

    // ---- draws

    private static void promise29() {
        MarchTester x = new MarchTester();
        due(29, "draws(5)", x.draws(5), 0);
        due(29, "draws(-1)", x.draws(-1), NONE);
        due(29, "draws(least)", x.draws(Integer.MIN_VALUE), NONE);
        due(29, "draws(most)", x.draws(Integer.MAX_VALUE), 5);
        due(29, "count(9)", x.count(9), Integer.MAX_VALUE);
        due(29, "draws(0)", x.draws(0), Integer.MAX_VALUE);
        due(29, "no act", x.count(8), 0);
    }

    /** How many of m faults are of kind 1 of two, and are at address 0 or 1 if half. */
    private static int drawnPlainly(long from, int m) {
        long x = from;
        int found = 0;
        for (int i = 0; i < 4 * m; i++) {
            x = (x * 1103515245L + 12345L) % 2147483648L;
            if (i % 4 == 0 && x / 65536 % 2 == 1) {
                found++;
            }
        }
        return found;
    }

    private static void promise30() {
        MarchTester x = with(kinds("k:0", "k:1"), "up(w0);up(r0)", "up(w0);up(r0);up(w1);up(r1)", "up(w0)");
        for (int start : new int[] {0, 1, 12345, Integer.MAX_VALUE}) {
            x.draws(start);
            for (int m : new int[] {1, 2, 7, 50}) {
                due(30, "drawn(0, " + m + ") from " + start, x.drawn(0, m), drawnPlainly(start, m));
                due(30, "drawn(1, " + m + ") from " + start, x.drawn(1, m), m);
                due(30, "drawn(2, " + m + ") from " + start, x.drawn(2, m), 0);
            }
            due(30, "x stays", x.count(9), start);
        }
        due(30, "drawn(0, 0)", x.drawn(0, 0), NONE);
        due(30, "drawn(0, 51)", x.drawn(0, 51), NONE);
        due(30, "drawn(3, 1)", x.drawn(3, 1), NONE);
        due(30, "drawn(-1, 1)", x.drawn(-1, 1), NONE);
        due(30, "no act", x.count(8), 0);
        due(30, "drawn without kinds", with(kinds(), MATS).drawn(0, 1), NONE);
        // from 0: x is 12345, 1406932606, 654583775, 1449466924: kind 0, placement 21468 of 12, contents 9988 of 16,
        // choice 22117 of 8: a 0, v 1, contents 4, choice 5
        MarchTester y = with(kinds("a0w1:1"), "up(w0);up(r0,w1)", "down(w0);down(r0,w1)", "any(w0);any(w0);any(w0);up(r0)");
        due(30, "placement 0 up", y.drawn(0, 1), 1);
        due(30, "placement 0 down", y.drawn(1, 1), 0);
        y.layout(0, 1);
        due(30, "placement 0 up, scrambled", y.drawn(0, 1), 0);
        due(30, "placement 0 down, scrambled", y.drawn(1, 1), 1);
    }

    private static void promise31() {
        MarchTester x = with(kinds("a0w1:x", "k:1"), MATS);
        x.memory(5);
        x.put(0, 3, 1);
        x.tell(17);
        x.draws(9);
        x.feed(0, 0, 0, 0, 0);
        int[] want = {5, 2, 1, 0, 3, 1, 17, NONE, 2, 9, 20};
        for (int w = 0; w < want.length; w++) {
            due(31, "count(" + w + ")", x.count(w), want[w]);
        }
        due(31, "count(11)", x.count(11), NONE);
        due(31, "count(-1)", x.count(-1), NONE);
        due(31, "count(most)", x.count(Integer.MAX_VALUE), NONE);
        x.put(1, NONE, 4);
        due(31, "count(3) of a single one", x.count(3), 1);
        due(31, "count(4) of a single one", x.count(4), NONE);
        due(31, "count(5) of a single one", x.count(5), 4);
        x.run(0, 0);
        due(31, "count(7)", x.count(7), 1);
    }

    public static void main(String[] args) {
        promise1();
        promise2();
        promise3();
        promise4();
        promise5();
        promise6();
        promise7();
        promise8();
        promise9();
        promise10();
        promise11();
        promise12();
        promise13();
        promise14();
        promise15();
        promise16();
        promise17();
        promise18();
        promise19();
        promise20();
        promise21();
        promise22();
        promise23();
        promise24();
        promise25();
        promise26();
        promise27();
        promise28();
        promise29();
        promise30();
        promise31();
        System.out.println("Promises: " + (asked - wrong) + " of " + asked + " answers are as due");
        if (wrong != 0) {
            System.exit(1);
        }
    }
}
