/** The boundaries of promises 26 to 30: which faults fit, which march parts them, faults by draws. */
final class GuessEdges {
    private static final int NONE = MarchTester.NONE;
    private static final int[] WRONG = {-1, Integer.MIN_VALUE, Integer.MAX_VALUE};
    private static final String RISE = "a0w1:1";
    private static final String UPWARD = "up(w0);up(r0,w1)";
    private static final String ZEROS = "up(w0);up(r0)";

    private final Sentences s;

    GuessEdges(Sentences s) {
        this.s = s;
    }

    void all() {
        fitting();
        fittingByTheRun();
        fits();
        parting();
        parts();
        asking();
        draws();
        drawing();
        drawn();
        drawnLimits();
    }

    private void fitsAre(MarchTester x, String when, int... want) {
        for (int what = 0; what < 4; what++) {
            s.due("fits(" + what + "), " + when, x.fits(what), want[what]);
        }
    }

    /** Eight pairs that a march without READS can't tell apart, in six cells. */
    private static MarchTester allFit() {
        MarchTester x = Tell.with(Tell.kinds("m", "m", "m", "m", "m", "m", "m", "m"), "up(w0)", UPWARD);
        x.memory(6);
        x.run(0, 0);
        return x;
    }

    // ---- promise 26

    private void fitting() {
        s.says(26, "FITS: FAULTS (KIND, then a, then v; of a SINGLE one v alone) that would, PUT IN this MEMORY (its LAYOUT as it is), with some contents of the CELLS ahead, by the MARCH and CHOICE of the latest RUN give its LOG, with as many READS that FAILED.");
        MarchTester kinds = Tell.with(Tell.kinds("k:0", "k:1", "n:1"), ZEROS);
        kinds.put(2, NONE, 3);
        kinds.run(0, 0);
        fitsAre(kinds, "the first kind of two", 2, 1, NONE, 3);
        for (int n = 2; n <= 6; n++) {
            MarchTester x = Tell.with(Tell.kinds(RISE), UPWARD);
            x.memory(n);
            x.run(0, 0);
            // none fails where v is ahead of a: a 1, v 0 is the first of these
            fitsAre(x, "the first a of " + n, n * (n - 1) / 2, 0, 1, 0);
        }
        MarchTester last = Tell.with(Tell.kinds(RISE), UPWARD);
        last.put(0, 2, 3);
        last.run(0, 0);
        fitsAre(last, "any a below v 3", 3, 0, 0, 3);
        MarchTester layout = Tell.with(Tell.kinds("k:1"), ZEROS);
        layout.put(0, NONE, 2);
        layout.run(0, 0);
        fitsAre(layout, "at address 2", 1, 0, NONE, 2);
        layout.layout(2, 0);
        fitsAre(layout, "cell 0 is at address 2", 1, 0, NONE, 0);
        MarchTester contents = Tell.with(Tell.kinds("v0w0:1"), ZEROS);
        contents.run(0, 0);
        fitsAre(contents, "each, with v 1 ahead", 4, 0, NONE, 0);
        contents.tell(0);
        contents.put(0, NONE, 3);
        contents.run(0, 0);
        fitsAre(contents, "one, with v 0 ahead", 1, 0, NONE, 3);
        MarchTester ofA = Tell.with(Tell.kinds("a1w0:1"), ZEROS);
        ofA.tell(8);
        ofA.put(0, 3, 1);
        ofA.run(0, 0);
        fitsAre(ofA, "a 2 or 3, if it was 1 ahead", 2, 0, 2, 1);
        for (int way = 0; way < 4; way++) {
            MarchTester out = Tell.oneWayOut(way);
            out.memory(2);
            out.run(0, 0);
            fitsAre(out, "with contents " + way + " alone", 2, 0, 0, 1);
        }
        // v 0 fails twice, or once if the first READ mends it
        MarchTester many = Tell.with(Tell.kinds("k:1", "v0w0:1,v1r:0/1"), "up(w0);up(r0);up(r0)");
        many.put(1, NONE, 2);
        many.run(0, 0);
        s.due("one READ failed", many.count(7), 1);
        fitsAre(many, "with as many READS that failed", 1, 1, NONE, 2);
        many.put(0, NONE, 2);
        many.run(0, 0);
        s.due("two READS failed", many.count(7), 2);
        fitsAre(many, "with two of them", 1, 0, NONE, 2);
    }

    private void fittingByTheRun() {
        s.says(26, "by the MARCH and CHOICE of the latest RUN give its LOG");
        MarchTester x = Tell.with(Tell.kinds(RISE), "any(w0);any(r0,w1)", "up(w0)");
        x.run(0, 0);
        fitsAre(x, "up", 6, 0, 1, 0);
        x.run(0, 2);
        fitsAre(x, "down", 6, 0, 0, 1);
        x.run(0, 5);
        fitsAre(x, "the second any up", 6, 0, 1, 0);
        x.run(1, 0);
        fitsAre(x, "another march", 12, 0, 0, 1);
        x.undo();
        x.undo();
        fitsAre(x, "the one ahead of those undone", 6, 0, 0, 1);
        x.tell(5);
        x.put(0, 1, 0);
        fitsAre(x, "other acts change nothing", 6, 0, 0, 1);
        MarchTester ways = Tell.with(Tell.kinds("k:1"), "up(w0);down(r0)", "any(w0);any(r0);any(r0)");
        ways.put(0, NONE, 1);
        ways.run(0, 0);
        fitsAre(ways, "READ 2 of those that go down", 1, 0, NONE, 1);
        ways.run(1, 2);
        fitsAre(ways, "READS 2 and 5", 1, 0, NONE, 1);
        ways.run(1, 4);
        fitsAre(ways, "READS 1 and 6", 1, 0, NONE, 1);
        MarchTester twice = Tell.with(Tell.kinds("k:1", "v0r:1/0"), "up(w0);up(r0,r0)");
        twice.put(1, NONE, 1);
        twice.run(0, 0);
        fitsAre(twice, "the second READ at its address", 1, 1, NONE, 1);
        twice.put(0, NONE, 1);
        twice.run(0, 0);
        fitsAre(twice, "both READS at its address", 1, 0, NONE, 1);
        Tell.kind(x, "v0w0:0");
        s.due("a kind that came behind the run fits, too", x.fits(0), 10);
    }

    private void fits() {
        s.says(26, "FITS what 0: how many, 1 to 3: KIND, a (NONE), v of the first one (-2: there is none).");
        s.due("the most", allFit().fits(0), 240);
        MarchTester none = Tell.with(Tell.kinds("k:1"), ZEROS);
        none.run(0, 0);
        fitsAre(none, "there is none", 0, -2, -2, -2);
        MarchTester noKinds = Tell.with(Tell.kinds(), ZEROS);
        noKinds.run(0, 0);
        fitsAre(noKinds, "without kinds", 0, -2, -2, -2);
        s.says(26, "NONE for others, or without a RUN.");
        for (int what : new int[] {4, -1, Integer.MIN_VALUE, Integer.MAX_VALUE}) {
            s.due("fits(" + what + ")", none.fits(what), NONE);
        }
        none.undo();
        fitsAre(none, "the run undone", NONE, NONE, NONE, NONE);
        fitsAre(Tell.with(Tell.kinds("k:1"), ZEROS), "without a run", NONE, NONE, NONE, NONE);
        none.run(0, 0);
        none.memory(4);
        fitsAre(none, "a new memory", NONE, NONE, NONE, NONE);
    }

    // ---- promises 27 and 28

    private void parting() {
        s.says(27, "PARTS of a MARCH (CHOICE 0): FITS, each from CELLS 0, by the LOG, and how many READS FAILED, that each would give: how many are in the greatest part (0 without FITS).");
        MarchTester x = Tell.with(Tell.kinds(RISE), "up(w0)", "any(w0);any(r0,w1)", "up(w0);down(r0,w1)");
        x.run(0, 7);
        s.due("fits", x.fits(0), 12);
        s.due("all alike", x.parts(0), 12);
        // up: v 1 fails for one a, v 2 for two, v 3 for three; the other six do not fail
        s.due("up", x.parts(1), 6);
        s.due("down", x.parts(2), 6);
        MarchTester zero = Tell.with(Tell.kinds("v0w0:1"), "up(w0)", ZEROS);
        zero.tell(15);
        zero.run(0, 0);
        s.due("from cells 0 each fails by itself", zero.parts(1), 1);
        MarchTester one = Tell.with(Tell.kinds("v1w0:1"), "up(w0)", ZEROS);
        one.tell(15);
        one.run(0, 0);
        s.due("from cells 0 none fails", one.parts(1), 4);
        MarchTester many = Tell.with(Tell.kinds("k:1", "v0w0:1,v1r:0/1"), "up(w0)", "up(w0);up(r0);up(r0)");
        many.run(0, 0);
        s.due("by how many failed, too", many.parts(1), 1);
        MarchTester choice = Tell.with(Tell.kinds(RISE), UPWARD, "any(w0);any(r0,w1)", "up(w0);down(r0,w1)",
            "up(w0);any(r0,w1)", "any(w0);any(w0);any(r0,w1)");
        choice.run(0, 7);
        // the fits have v below a: going down v 0 fails for three a, v 1 for two, v 2 for one
        s.due("CHOICE 0, not that of the run", choice.parts(1), 6);
        s.due("down", choice.parts(2), 3);
        s.due("the first any goes up, too", choice.parts(3), 6);
        s.due("the third any goes up, too", choice.parts(4), 6);
        MarchTester layout = Tell.with(Tell.kinds("k:1", RISE), "up(w0)", UPWARD);
        layout.memory(3);
        layout.run(0, 0);
        // k:1 and a 0 for v 1, k:1 and both a for v 2; three of RISE do not fail
        s.due("three cells", layout.parts(1), 3);
        layout.memory(2);
        layout.run(0, 0);
        s.due("two cells: k:1 and RISE at v 1", layout.parts(1), 2);
        s.due("240 alike", allFit().parts(0), 240);
        // READS 246 to 275 are the only ones that fail, five of each cell
        MarchTester late = Tell.with(Tell.kinds("k:1"), "up(w0)",
            "up(w1,r1,r1,r1,r1,r1)" + ";up(r1,r1,r1,r1,r1,r1)".repeat(6) + ";up(w0,r0,r0,r0,r0,r0)");
        late.memory(6);
        late.run(0, 0);
        s.due("each by its late READS", late.parts(1), 1);
        // from cells 0 the first kind fails at its first READ alone, the other one at its last, 64 READS later
        MarchTester apart = Tell.with(Tell.kinds("v0w0:1,v1r:0/1", "v0w1:0"), "up(w0)",
            "up(w0);up(r0);up(r0,r0,r0,r0,r0,r0);up(r0,r0,r0,r0,r0,r0);up(r0,r0,r0);up(w1,r1)");
        apart.run(0, 0);
        s.due("READS that are 64 apart", apart.parts(1), 1);
        MarchTester none = Tell.with(Tell.kinds("k:1"), ZEROS);
        none.run(0, 0);
        s.due("without fits", none.parts(0), 0);
    }

    private void parts() {
        s.says(27, "PARTS of a MARCH;");
        MarchTester x = Tell.with(Tell.kinds("k:1", "k:0"), "up(w0)", ZEROS, "up(w0);up(r0);up(w1);up(r1)");
        x.run(0, 0);
        s.due("all", x.parts(0), 8);
        s.due("those stuck at 0", x.parts(1), 4);
        s.due("each by itself", x.parts(2), 1);
        s.says(27, "NONE without it, or without a RUN.");
        for (int bad : WRONG) {
            s.due("parts(" + bad + ")", x.parts(bad), NONE);
        }
        s.due("parts(3)", x.parts(3), NONE);
        x.undo();
        s.due("the run undone", x.parts(0), NONE);
        s.due("without a run", Tell.with(Tell.kinds("k:1"), ZEROS).parts(0), NONE);
        s.due("without a run, nor a march", new MarchTester().parts(0), NONE);
    }

    private void asking() {
        s.says(28, "ASK: the MARCH with the least, of several the least.");
        MarchTester x = Tell.with(Tell.kinds("k:1", "k:0"), "up(w0)", ZEROS, "up(w0);up(r0);up(w1);up(r1)",
            "up(w1);up(r1);up(w0);up(r0)", ZEROS);
        x.run(0, 0);
        s.due("the first of two that part best", x.ask(), 2);
        MarchTester second = Tell.with(Tell.kinds("k:1", "k:0"), "up(w0)", ZEROS, "up(w0)");
        second.run(0, 0);
        s.due("the second of three", second.ask(), 1);
        MarchTester best = Tell.with(Tell.kinds("k:1"), ZEROS, "up(w0)", ZEROS);
        best.run(1, 0);
        s.due("the first of all", best.ask(), 0);
        MarchTester last = Tell.with(Tell.kinds("k:1"), "up(w0)", "up(w0)", "up(w0)", "up(w0)", "up(w0)", ZEROS);
        last.run(0, 0);
        s.due("the last of six", last.ask(), 5);
        MarchTester none = Tell.with(Tell.kinds("k:1"), ZEROS, "up(w0)");
        none.run(0, 0);
        s.due("without fits all are 0", none.ask(), 0);
        s.says(28, "NONE without a RUN.");
        s.due("without a run", Tell.with(Tell.kinds("k:1"), ZEROS).ask(), NONE);
        s.due("without a run, nor a march", new MarchTester().ask(), NONE);
        x.undo();
        s.due("the run undone", x.ask(), NONE);
        x.run(0, 0);
        x.memory(4);
        s.due("a new memory", x.ask(), NONE);
        s.says(28, "ASK;");
        x.run(0, 0);
        s.due("a run again", x.ask(), 2);
    }

    // ---- promises 29 and 30

    private void draws() {
        s.says(29, "x becomes a number: what it was;");
        MarchTester x = new MarchTester();
        s.due("draws(7)", x.draws(7), 0);
        s.due("draws(most)", x.draws(Integer.MAX_VALUE), 7);
        s.due("draws(0)", x.draws(0), Integer.MAX_VALUE);
        s.due("count(9)", x.count(9), 0);
        s.due("it is no act", x.count(8), 0);
        s.says(29, "NONE, and nothing happens, below 0.");
        s.refused("draws(-1)", Tell::rich, t -> t.draws(-1), NONE);
        s.refused("draws(least)", Tell::rich, t -> t.draws(Integer.MIN_VALUE), NONE);
    }

    private void drawing() {
        s.says(30, "DRAWS: x (0 to 2147483647; 0 at first) becomes x * 1103515245 + 12345, of 2147483648 the rest; a DRAW of k is x / 65536, of k the rest.");
        s.due("at first", new MarchTester().count(9), 0);
        MarchTester x = Tell.with(Tell.kinds("k:0", "k:1"), ZEROS);
        s.due("from 0 it is 12345: 0 of two", x.drawn(0, 1), 0);
        // 2147483648 - 1103515245 + 12345 is 1043980748, 15929 times 65536 and some
        x.draws(Integer.MAX_VALUE);
        s.due("from the most it is 1043980748: 1 of two", x.drawn(0, 1), 1);
        // 12345 more than 1103515245 is 1103527590, 16838 times 65536 and some
        x.draws(1);
        s.due("from 1 it is 1103527590: 0 of two", x.drawn(0, 1), 0);
        // 2 * 1103515245 + 12345 less 2147483648 is 59559187, 908 times 65536 and some
        x.draws(2);
        s.due("from 2 it is 59559187: 0 of two", x.drawn(0, 1), 0);
        // 3 * 1103515245 + 12345 less 2147483648 is 1163074432, 17747 times 65536 and some
        x.draws(3);
        s.due("from 3 it is 1163074432: 1 of two", x.drawn(0, 1), 1);
    }

    private void drawn() {
        s.says(30, "DRAWN by m (1 to 50) for a MARCH: m times a DRAW of how many KINDS, a DRAW of its PLACEMENTS (all), a DRAW of the contents (2 to the N), a DRAW of 8 (the CHOICE): how many of them have a READ that FAILS (x as it was).");
        // from 0 the draws are 0, 21468, 9988 and 22117 of what is asked: contents 4 (of two cells 0), CHOICE 5
        MarchTester x = Tell.with(Tell.kinds(RISE), UPWARD, "up(w0);down(r0,w1)", "up(w0);any(r0,w1)",
            "up(w0);any(w0);any(r0,w1)", "any(w0);any(w0);any(r0,w1)");
        // placements 0, 0, 0, 8 and 18: a below v but in five cells, where a is 2 and v 0
        int[] up = {1, 1, 1, 0, 1};
        for (int n = 2; n <= 6; n++) {
            x.memory(n);
            s.due("up, of " + n, x.drawn(0, 1), up[n - 2]);
            s.due("down, of " + n, x.drawn(1, 1), 1 - up[n - 2]);
        }
        x.memory(4);
        s.due("the first any goes down", x.drawn(2, 1), 0);
        s.due("the second any goes up", x.drawn(3, 1), 1);
        s.due("the third any goes down", x.drawn(4, 1), 0);
        x.layout(0, 1);
        s.due("up, scrambled", x.drawn(0, 1), 0);
        s.due("down, scrambled", x.drawn(1, 1), 1);
        MarchTester fall = Tell.with(Tell.kinds("a1w0:1"), ZEROS);
        fall.memory(5);
        s.due("contents 4: a, cell 2, is 1 and falls", fall.drawn(0, 1), 1);
        MarchTester stay = Tell.with(Tell.kinds("a0w0:1"), ZEROS);
        stay.memory(5);
        s.due("contents 4: a, cell 2, is not 0", stay.drawn(0, 1), 0);
        MarchTester many = Tell.with(Tell.kinds("k:1"), ZEROS, "up(w0)");
        many.draws(1234567);
        s.due("each fails", many.drawn(0, 50), 50);
        s.due("none fails", many.drawn(1, 50), 0);
        s.due("x as it was", many.count(9), 1234567);
        s.due("it is no act", many.count(8), 0);
        s.due("cells as they were", many.count(6), 0);
        s.due("no run", many.count(7), NONE);
        MarchTester eight = Tell.with(Tell.kinds("k:0", "k:0", "k:0", "k:0", "k:0", "k:0", "k:0", "k:1"), ZEROS);
        s.due("the eighth kind, from 3", drawnFrom(eight, 3), 0);
        // 15929 is 1 more than 8 times 1991
        s.due("the second kind, from the most", drawnFrom(eight, Integer.MAX_VALUE), 0);
        // 5 * 1103515245 + 12345 less 2 * 2147483648 is 1222621274, 18655 times 65536 and some: 8 * 2331 and 7
        s.due("the eighth kind, from 5", drawnFrom(eight, 5), 1);
        MarchTester held = Tell.with(Tell.kinds("v0w1:0", "a1w1:0"), "up(w1);any(r1)");
        for (int n = 2; n <= 6; n++) {
            held.memory(n);
            for (int m : new int[] {1, 2, 3, 20, 49, 50}) {
                held.draws(1000 * n + m);
                s.due("contents of " + n + " cells, drawn " + m + " times", held.drawn(0, m), heldFailures(1000 * n + m, n, m));
            }
        }
    }

    /** The first kind fails if v is 0 ahead, the second one if a is 1 ahead and written behind v. */
    private static int heldFailures(long start, int n, int m) {
        long x = start;
        int failures = 0;
        for (int i = 0; i < m; i++) {
            int[] drawn = new int[4];
            int[] of = {2, n, 1 << n, 8};
            for (int j = 0; j < 4; j++) {
                x = (x * 1103515245L + 12345L) % 2147483648L;
                of[1] = drawn[0] == 0 ? n : n * (n - 1);
                drawn[j] = (int) (x / 65536 % of[j]);
            }
            int a = drawn[1] / (n - 1);
            boolean behind = drawn[1] % (n - 1) < a;
            boolean fails = drawn[0] == 0 ? (drawn[2] >> drawn[1] & 1) == 0 : behind && (drawn[2] >> a & 1) == 1;
            failures += fails ? 1 : 0;
        }
        return failures;
    }

    private static int drawnFrom(MarchTester x, int start) {
        x.draws(start);
        return x.drawn(0, 1);
    }

    private void drawnLimits() {
        s.says(30, "DRAWN by m for a MARCH;");
        MarchTester x = Tell.with(Tell.kinds("k:1"), ZEROS);
        s.due("drawn(0, 1)", x.drawn(0, 1), 1);
        s.due("drawn(0, 50)", x.drawn(0, 50), 50);
        s.says(30, "NONE without these, or without KINDS.");
        for (int m : new int[] {0, 51, -1, Integer.MIN_VALUE, Integer.MAX_VALUE}) {
            s.due("drawn(0, " + m + ")", x.drawn(0, m), NONE);
        }
        for (int bad : WRONG) {
            s.due("drawn(" + bad + ", 1)", x.drawn(bad, 1), NONE);
        }
        s.due("drawn(1, 1)", x.drawn(1, 1), NONE);
        s.due("without kinds", Tell.with(Tell.kinds(), ZEROS).drawn(0, 1), NONE);
        s.due("without marches", Tell.with(Tell.kinds("k:1")).drawn(0, 1), NONE);
    }
}
