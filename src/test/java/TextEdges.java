/** The boundaries of promises 1 to 8: a new object, the tape, the texts of kinds and marches, what these tell. */
final class TextEdges {
    private static final int NONE = MarchTester.NONE;

    private final Sentences s;

    TextEdges(Sentences s) {
        this.s = s;
    }

    void all() {
        newObject();
        feeds();
        ends();
        kindNumbers();
        kindGrammar();
        kindFaults();
        kindFaultsOfOnePlace();
        marchNumbers();
        marchGrammar();
        marchFaults();
        marchFaultsOfOnePlace();
        ofKinds();
        ofMarches();
        elements();
    }

    // ---- what the tests of texts share

    /** The text as a kind of a new object answers -2 less than this fault. */
    private void kindFault(String text, int place, int why) {
        MarchTester x = new MarchTester();
        s.due("kind \"" + text + "\"", Tell.kind(x, text), -2 - (8 * place + why));
        s.due("kinds behind \"" + text + "\"", x.count(1), 0);
    }

    private void fineKind(String text, int rules, int pair) {
        MarchTester x = new MarchTester();
        s.due("kind \"" + text + "\"", Tell.kind(x, text), 0);
        s.due("rules of \"" + text + "\"", x.ofKind(0, 0), rules);
        s.due("pair, \"" + text + "\"", x.ofKind(0, 1), pair);
    }

    private void marchFault(String text, int place, int why) {
        MarchTester x = new MarchTester();
        s.due("march \"" + text + "\"", Tell.march(x, text), -2 - (8 * place + why));
        s.due("marches behind \"" + text + "\"", x.count(2), 0);
    }

    private void fineMarch(String text, int elements, int ops) {
        MarchTester x = new MarchTester();
        s.due("march \"" + text + "\"", Tell.march(x, text), 0);
        s.due("elements of \"" + text + "\"", x.ofMarch(0, 0), elements);
        s.due("ops of \"" + text + "\"", x.ofMarch(0, 1), ops);
    }

    private static MarchTester withTape(int bytes) {
        MarchTester x = Tell.rich();
        x.end(0);
        Tell.feed(x, "k:1" + " ".repeat(bytes - 3));
        return x;
    }

    private static MarchTester withEightKinds() {
        MarchTester x = Tell.rich();
        x.end(0);
        for (int k = 3; k < 8; k++) {
            Tell.kind(x, "n:" + (k & 1));
        }
        return x;
    }

    private static MarchTester withSixMarches() {
        MarchTester x = Tell.rich();
        x.end(0);
        for (int m = 2; m < 6; m++) {
            Tell.march(x, "up(w" + (m & 1) + ")");
        }
        return x;
    }

    // ---- promises 1 to 3

    private void newObject() {
        s.says(1, "A MEMORY of 4 CELLS, all 0.");
        MarchTester x = new MarchTester();
        int[] want = {4, 0, 0, NONE, NONE, NONE, 0, NONE, 0, 0, 0};
        for (int what = 0; what < want.length; what++) {
            s.due("count(" + what + ")", x.count(what), want[what]);
        }
        s.due("cell(3, 1)", x.cell(3, 1), 0);
        s.due("cell(4, 1)", x.cell(4, 1), NONE);
        s.due("cell(3, 0)", x.cell(3, 0), 3);
        s.due("undo()", x.undo(), NONE);
        s.due("heal()", x.heal(), false);
        s.due("fits(0)", x.fits(0), NONE);
        s.due("covers(0)", x.covers(0), NONE);
        s.due("drawn(0, 1)", x.drawn(0, 1), NONE);
        s.says(1, "The constants: `NONE = -1`: None.");
        s.due("NONE", NONE, -1);
        s.says(1, "An object is used for at most 512 calls after it has been made; what later calls answer is free.");
        MarchTester y = new MarchTester();
        for (int i = 0; i < 255; i++) {
            y.tell(i & 15);
            y.read(i & 3);
        }
        s.due("the 511th call", y.write(0, 1), 254 & 15 | 1);
        s.due("the 512th call", y.undo(), 19);
    }

    private void feeds() {
        s.says(2, "Twenty bytes come behind the TAPE, of each number the highest first: how many it has;");
        MarchTester x = new MarchTester();
        for (int i = 1; i <= 10; i++) {
            s.due("feed " + i, x.feed(-1, 0, Integer.MIN_VALUE, Integer.MAX_VALUE, 1), 20 * i);
        }
        MarchTester y = new MarchTester();
        // "k:1 ,k:0 ,v0w1:0,m  ": by any other order of bytes or numbers the first fault is elsewhere
        y.feed(0x6b3a3120, 0x2c6b3a30, 0x202c7630, 0x77313a30, 0x2c6d2020);
        s.due("the order of bytes and numbers", y.kind(), -2 - (8 * 17 + 3));
        Tell.feed(y, "k:1");
        s.due("behind three bytes", y.feed(0x2c6b3a30, 0x20202020, 0x20202020, 0x20202020, 0x20202020), 23);
        s.due("they come behind what is there", y.kind(), 0);
        s.due("both rules are told", y.ofKind(0, 0), 2);
        y.feed(0xff000000, 0, 0, 0, 0);
        s.due("a byte of 255 is one byte, and none of the text's", y.kind(), -3);
        s.says(2, "NONE, and none comes, if it would have more than 200.");
        s.refused("feed behind 181", () -> withTape(181), t -> t.feed(1, 2, 3, 4, 5), NONE);
        s.refused("feed behind 200", () -> withTape(200), t -> t.feed(1, 2, 3, 4, 5), NONE);
        s.due("feed behind 180", withTape(180).feed(1, 2, 3, 4, 5), 200);
        MarchTester z = new MarchTester();
        Tell.feed(z, "up" + " ".repeat(194) + "(w0)");
        z.feed(0, 0, 0, 0, 0);
        s.due("none came behind 200", z.march(), 0);
    }

    private void ends() {
        s.says(3, "The TAPE has its first n bytes alone: n;");
        MarchTester x = new MarchTester();
        s.due("end(0) of an empty one", x.end(0), 0);
        x.feed(0x6b3a312c, 0x6b3a3000, 0, 0, 0);
        s.due("end(20) of 20", x.end(20), 20);
        s.due("end(7)", x.end(7), 7);
        s.due("bytes then", x.count(10), 7);
        s.due("end(3)", x.end(3), 3);
        s.due("the first ones stay", x.kind(), 0);
        s.due("the others are gone", x.ofKind(0, 0), 1);
        x.feed(0x6b3a3100, 0, 0, 0, 0);
        s.due("end(0) of 20", x.end(0), 0);
        s.due("an empty one then", x.kind(), -3);
        s.says(3, "NONE, and nothing happens, if it has not so many, or n is below 0.");
        s.due("end(1) of an empty one", x.end(1), NONE);
        s.refused("end(4) of 3", Tell::rich, t -> t.end(4), NONE);
        s.refused("end(-1)", Tell::rich, t -> t.end(-1), NONE);
        s.refused("end(most)", Tell::rich, t -> t.end(Integer.MAX_VALUE), NONE);
        s.refused("end(least)", Tell::rich, t -> t.end(Integer.MIN_VALUE), NONE);
        s.refused("end(201) of 200", () -> withTape(200), t -> t.end(201), NONE);
        x.feed(0, 0, 0, 0, 0);
        x.end(19);
        s.due("what was cut off does not come back", x.end(20), NONE);
    }

    // ---- promise 4

    private void kindNumbers() {
        s.says(4, "KINDS 0 to 7.");
        MarchTester x = new MarchTester();
        for (int k = 0; k < 8; k++) {
            s.due("a wrong text takes no number", Tell.kind(x, "q"), -3);
            s.due("kind " + k, Tell.kind(x, "k:1"), k);
        }
        s.due("the ninth", Tell.kind(x, "k:1"), NONE);
        s.due("kinds", x.count(1), 8);
        s.says(4, "The TAPE, which is empty then, tells a KIND: its number;");
        MarchTester y = Tell.rich();
        s.due("kind()", y.kind(), 3);
        s.due("bytes then", y.count(10), 0);
        s.due("kind() of the empty one", y.kind(), -3);
        s.says(4, "-2 - its FAULT, and but for the TAPE nothing happens.");
        MarchTester z = Tell.rich();
        Tell.feed(z, ",q");
        s.due("the least fault", new MarchTester().kind(), -3);
        s.due("a fault", z.kind(), -2 - (8 * 4 + 1));
        s.due("bytes then", z.count(10), 0);
        MarchTester twin = Tell.rich();
        twin.end(0);
        s.due("all else stays", Tell.all(z), Tell.all(twin));
        s.says(4, "NONE, and nothing happens (the TAPE stays, too), if there are 8, or the TAPE has more than 100 bytes.");
        s.refused("the ninth kind", TextEdges::withEightKinds, t -> t.kind(), NONE);
        MarchTester full = withEightKinds();
        Tell.feed(full, "k:1");
        s.due("the ninth, told rightly", full.kind(), NONE);
        s.due("its bytes stay", full.count(10), 3);
        full.end(0);
        Tell.feed(full, "q");
        s.due("the ninth, told wrongly", full.kind(), NONE);
        s.due("its bytes stay", full.count(10), 1);
        s.refused("101 bytes", () -> withTape(101), t -> t.kind(), NONE);
        s.refused("200 bytes", () -> withTape(200), t -> t.kind(), NONE);
        s.due("100 bytes", withTape(100).kind(), 3);
        s.due("101 bytes are cut to 100", withTape(101).end(100), 100);
        s.says(4, "A KIND is told by a text of at most 100 bytes:");
        fineKind("k" + " ".repeat(97) + ":1", 1, 0);
        kindFault(" ".repeat(100), 100, 1);
        kindFault(" ".repeat(99) + "v", 100, 1);
        MarchTester long101 = new MarchTester();
        Tell.feed(long101, "q" + " ".repeat(100));
        s.due("101 bytes, the first one wrong", long101.kind(), NONE);
    }

    private void kindGrammar() {
        s.says(4, "RULE { , RULE }, 4 at most.");
        fineKind("k:1", 1, 0);
        fineKind("k:1,k:1,k:1,k:1", 4, 0);
        kindFault("k:1,k:1,k:1,k:1,k:1", 16, 2);
        kindFault("k:1;k:1", 3, 1);
        kindFault("k:1 k:1", 4, 1);
        kindFault("k:1,,k:1", 4, 1);
        kindFault(",k:1", 0, 1);
        s.says(4, "RULE: v D w D : D | v D r : D / D | a D w D : T | a D r : T | s D : D | k : D | n : D | m | b : D.");
        String[] single = {"v0w0:0", "v0w1:0", "v1w0:1", "v1w1:0", "v0r:1/1", "v1r:0/1", "v0r:0/0", "k:0", "k:1", "n:0", "n:1"};
        for (String text : single) {
            fineKind(text, 1, 0);
        }
        kindFault("v0w1:0/1", 6, 1);
        kindFault("v0r:1", 5, 1);
        kindFault("v0r1:1", 3, 1);
        kindFault("a0r:1/1", 5, 1);
        kindFault("a0w:1", 3, 1);
        kindFault("s0w1:1", 2, 1);
        kindFault("k0:1", 1, 1);
        kindFault("m:1", 1, 1);
        kindFault("b", 1, 1);
        kindFault("V0w1:0", 0, 1);
        kindFault("v0W1:0", 2, 1);
        s.says(4, "D: 0 or 1; T: 0, 1 or x.");
        for (String bad : new String[] {"2", "x", "/", "", "9", ":"}) {
            digitFaults(bad);
        }
        for (String t : new String[] {"0", "1", "x"}) {
            fineKind("a0w1:" + t, 1, 1);
            fineKind("a1r:" + t, 1, 1);
        }
        for (String t : new String[] {"2", "X", "y", "w", "/"}) {
            kindFault("a0w1:" + t, 5, 1);
            kindFault("a1r:" + t, 4, 1);
        }
        s.says(4, "Blanks (32) may stand anywhere between.");
        fineKind("v 1  r : 0 / 1 , a 0 w   1 : x , s 0 : 1 ,   k : 1", 4, 1);
        fineKind("n  :   0", 1, 0);
        for (char sign : new char[] {0, 9, 10, 31, 33, 160}) {
            kindFault("k" + sign + ":1", 1, 1);
            kindFault("k:1" + sign, 3, 1);
        }
        s.says(4, "A KIND with n, m or b has that RULE alone.");
        fineKind("n:1", 1, 0);
        fineKind("m", 1, 1);
        fineKind("b:1", 1, 1);
        kindFault("n:1,n:1", 4, 3);
        kindFault("m,m", 2, 3);
        kindFault("b:1,b:1", 4, 3);
        s.says(4, "It is a PAIR, if it has a RULE of a, s, m or b; else it is SINGLE.");
        for (String text : new String[] {"a0w1:x", "a0r:1", "s0:1", "m", "b:0"}) {
            fineKind(text, 1, 1);
        }
        fineKind("k:1,v0w1:0,v0r:1/1,v0r:0/0", 4, 0);
        fineKind("k:1,v0w1:0,v0r:1/1,a0r:0", 4, 1);
        fineKind("k:1,v0w1:0,v0r:1/1,s0:0", 4, 1);
        fineKind("s0:0,k:1", 2, 1);
    }

    /** Each D of each rule by itself. */
    private void digitFaults(String bad) {
        String[] texts = {"v?w1:0", "v0w?:0", "v0w1:?", "v?r:0/1", "v0r:?/1", "v0r:0/?", "a?w1:0", "a0w?:0", "a?r:0", "s?:0",
            "s0:?", "k:?", "n:?", "b:?"};
        for (String text : texts) {
            kindFault(text.replace("?", bad), text.indexOf('?'), 1);
        }
    }

    private void kindFaults() {
        s.says(4, "FAULT of a text that is none: of the first place along it that is wrong (0 the first byte), 8 times the place and:");
        kindFault("q", 0, 1);
        kindFault("k:2,q,m", 2, 1);
        kindFault("m,k:2", 2, 3);
        kindFault("k:1,m,q", 4, 3);
        kindFault("k:1,k:1,k:1,k:1,k:2", 16, 2);
        kindFault("v2w2:2", 1, 1);
        s.says(4, "1 a byte that can't stand there, or the text ends (the place behind its last byte);");
        for (String text : new String[] {"v1r:0/1", "a0w1:x", "a0r:1", "s0:1", "k:1", "n:1", "b:1", "m"}) {
            for (int n = 0; n < text.length(); n++) {
                kindFault(text.substring(0, n), n, 1);
                kindFault(text.substring(0, n) + "\u00ff", n, 1);
            }
            kindFault(text + "\u00ff", text.length(), 1);
            kindFault(text + ",", text.length() + 1, 1);
            kindFault(text + ", ", text.length() + 2, 1);
        }
        kindFault("   ", 3, 1);
        strangeBytesInKinds();
        s.says(4, "2 a RULE (where it begins) that would be the fifth;");
        kindFault("k:1,k:1,k:1,k:1,v0w1:0", 16, 2);
        kindFault("k:1,k:1,k:1,k:1,  a0w1:0", 18, 2);
        kindFault("k:1,k:1,k:1,k:1,s", 16, 2);
        kindFault("v0r:1/1,v0r:1/1,v0r:1/1,v0r:1/1,k", 32, 2);
        s.says(4, "3 an n, m or b that is not alone, or another RULE behind one (where it begins).");
        for (String alone : new String[] {"n:0", "m", "b:1"}) {
            kindFault("k:1," + alone, 4, 3);
            kindFault("k:1 ,  " + alone, 7, 3);
            kindFault("k:1,s0:1,k:1," + alone, 13, 3);
            for (String other : new String[] {"v0w1:0", "a0r:1", "s0:1", "k:1", "n:1", "m", "b:0"}) {
                kindFault(alone + "," + other, alone.length() + 1, 3);
                kindFault(alone + " , " + other, alone.length() + 3, 3);
            }
        }
    }

    /** In place of each byte every one that is no sign of a text, those that are 128 above a sign among them. */
    private void strangeBytesInKinds() {
        for (String text : new String[] {"v1r:0/1,a0w1:x,s0:1", "k:1,a0r:1", "n:1", "b:1", "m"}) {
            for (int n = 0; n < text.length(); n++) {
                for (char strange = 0; strange < 256; strange++) {
                    if (isStrange(strange)) {
                        kindFault(text.substring(0, n) + strange + text.substring(n + 1), n, 1);
                    }
                }
            }
        }
    }

    private static boolean isStrange(char sign) {
        return " 01:,/;()".indexOf(sign) < 0 && (sign < 'a' || sign > 'z');
    }

    private void kindFaultsOfOnePlace() {
        s.says(4, "Of one place the least.");
        kindFault("k:1,k:1,k:1,k:1,m", 16, 2);
        kindFault("k:1,k:1,k:1,k:1,n:0", 16, 2);
        kindFault("k:1,k:1,k:1,k:1,z", 16, 1);
        kindFault("k:1,k:1,k:1,k:1,", 16, 1);
        kindFault("m,z", 2, 1);
        kindFault("b:0,", 4, 1);
    }

    // ---- promise 5

    private void marchNumbers() {
        s.says(5, "MARCHES 0 to 5.");
        MarchTester x = new MarchTester();
        for (int m = 0; m < 6; m++) {
            s.due("a wrong text takes no number", Tell.march(x, "q"), -3);
            s.due("march " + m, Tell.march(x, "up(w0)"), m);
        }
        s.due("the seventh", Tell.march(x, "up(w0)"), NONE);
        s.due("marches", x.count(2), 6);
        s.says(5, "The TAPE, which is empty then, tells a MARCH: its number;");
        MarchTester y = Tell.rich();
        y.end(0);
        s.due("march()", Tell.march(y, "up(w0)"), 2);
        s.due("bytes then", y.count(10), 0);
        s.says(5, "-2 - its FAULT, and but for the TAPE nothing happens.");
        MarchTester z = Tell.rich();
        s.due("a fault", z.march(), -3);
        s.due("bytes then", z.count(10), 0);
        s.due("the least fault", new MarchTester().march(), -3);
        MarchTester twin = Tell.rich();
        twin.end(0);
        s.due("all else stays", Tell.all(z), Tell.all(twin));
        s.says(5, "NONE, and nothing happens (the TAPE stays, too), if there are 6.");
        s.refused("the seventh march", TextEdges::withSixMarches, t -> t.march(), NONE);
        MarchTester full = withSixMarches();
        Tell.feed(full, "up(w0)");
        s.due("the seventh, told rightly", full.march(), NONE);
        s.due("its bytes stay", full.count(10), 6);
        full.end(1);
        s.due("the seventh, told wrongly", full.march(), NONE);
        s.due("its bytes stay", full.count(10), 1);
        s.says(5, "A MARCH is told by a text of at most 200 bytes:");
        fineMarch("up(w0" + " ".repeat(194) + ")", 1, 1);
        marchFault(" ".repeat(200), 200, 1);
        marchFault("up(w0" + " ".repeat(195), 200, 1);
        fineMarch("up(w0)" + " ".repeat(95), 1, 1);
    }

    private void marchGrammar() {
        String element = "up(w0);";
        s.says(5, "ELEMENT { ; ELEMENT }, 8 at most.");
        fineMarch("up(w0)", 1, 1);
        fineMarch(element.repeat(7) + "up(w0)", 8, 8);
        marchFault(element.repeat(8) + "up(w0)", 56, 2);
        marchFault("up(w0),up(w0)", 6, 1);
        marchFault("up(w0)up(w0)", 6, 1);
        marchFault("up(w0);;up(w0)", 7, 1);
        marchFault(";up(w0)", 0, 1);
        marchFault("up(w0);", 7, 1);
        s.says(5, "ELEMENT: WAY ( OP { , OP } ), 6 OPS at most.");
        fineMarch("up(w0,w1,w0,w1,w0,w1)", 1, 6);
        fineMarch("up(w0,w1,w0,w1,w0,w1);down(r1,r1,r1,r1,r1,r1)", 2, 12);
        marchFault("up(w0,w1,w0,w1,w0,w1,w0)", 21, 3);
        marchFault("up()", 3, 1);
        marchFault("up(w0,)", 6, 1);
        marchFault("up(,w0)", 3, 1);
        marchFault("up(w0 w0)", 6, 1);
        marchFault("up(w0;w0)", 5, 1);
        marchFault("upw0)", 0, 1);
        marchFault("up w0)", 3, 1);
        s.says(5, "WAY: up | down | any (small letters, as far as these go on; any thrice at most).");
        fineMarch("up(w0);down(w0);any(w0)", 3, 3);
        fineMarch("any(w0);any(w0);any(w0)", 3, 3);
        fineMarch("any(w0);up(w0);any(w0);down(w0);any(w0);up(w0)", 6, 6);
        marchFault("any(w0);any(w0);any(w0);any(w0)", 24, 2);
        for (String word : new String[] {"u", "upp", "upup", "dow", "downz", "an", "anya", "left", "upany", "a", "z"}) {
            marchFault(word + "(w0)", 0, 1);
        }
        marchFault("Up(w0)", 0, 1);
        marchFault("ANY(w0)", 0, 1);
        marchFault("up`(w0)", 2, 1);
        marchFault("up{(w0)", 2, 1);
        marchFault("upA(w0)", 2, 1);
        marchFault("up0(w0)", 2, 1);
        s.says(5, "OP: r D | w D.");
        fineMarch("up(w0,r0,w1,r1)", 1, 4);
        marchFault("up(w2)", 4, 1);
        marchFault("up(wx)", 4, 1);
        marchFault("up(w)", 4, 1);
        marchFault("up(w0,r2)", 7, 1);
        marchFault("up(w00)", 5, 1);
        marchFault("up(R0)", 3, 1);
        marchFault("up(0)", 3, 1);
        s.says(5, "Blanks between as one likes.");
        fineMarch("up  ( w 0 ,  r   0 )  ;  down ( r 0 )", 2, 3);
        marchFault("up\t(w0)", 2, 1);
        marchFault("up(w0\n)", 5, 1);
        marchFault("up(w0)\u0000", 6, 1);
    }

    private void marchFaults() {
        s.says(5, "FAULT likewise: 1 as above;");
        String text = "up(w0,r0);any(r0)";
        // what is a WAY so far, or an end where none may be, is a fault at the place behind; a broken WAY where it begins
        int[] places = {0, 0, 2, 3, 4, 5, 6, 7, 8, NONE, 10, 10, 10, 13, 14, 15, 16};
        for (int n = 0; n < text.length(); n++) {
            if (places[n] != NONE) {
                marchFault(text.substring(0, n), places[n], 1);
            }
        }
        marchFault(text + "\u00ff", 17, 1);
        marchFault(text + " ; ", 20, 1);
        marchFault("  ", 2, 1);
        // in place of a letter of a WAY it ends what goes on there, so that the WAY is broken where it begins
        int[] broken = {0, 0, 2, 3, 4, 5, 6, 7, 8, 9, 10, 10, 10, 13, 14, 15, 16};
        for (int n = 0; n < text.length(); n++) {
            for (char strange = 0; strange < 256; strange++) {
                if (isStrange(strange)) {
                    marchFault(text.substring(0, n) + strange + text.substring(n + 1), broken[n], 1);
                }
            }
        }
        s.says(5, "2 an ELEMENT (where it begins) that would be the ninth, or an any that would be the fourth;");
        marchFault("up(w0);".repeat(8) + "  down(w0)", 58, 2);
        marchFault("up(w0);".repeat(8) + "up", 56, 2);
        marchFault("any(w0);".repeat(3) + "up(w0); any(w0)", 32, 2);
        marchFault("any(w0);".repeat(3) + "any", 24, 2);
        marchFault("up(w0);".repeat(5) + "any(w0);".repeat(3) + "any(w0)", 59, 2);
        s.says(5, "3 an OP (where it begins) that would be the seventh of its ELEMENT;");
        marchFault("up(w0,w0,w0,w0,w0,w0,  w0)", 23, 3);
        marchFault("up(w0,w0,w0,w0,w0,w0,w", 21, 3);
        marchFault("up(w0,w0,w0,w0,w0,w0);up(w0,w0,w0,w0,w0,w0,r0)", 43, 3);
        s.says(5, "4 an r (at it) that does not tell what a sound memory has then: what was written last (if nothing was: none does).");
        marchFault("up(r0)", 3, 4);
        marchFault("up(r1)", 3, 4);
        marchFault("up( r 0)", 4, 4);
        marchFault("up(r0,w0)", 3, 4);
        marchFault("up(w0,r1)", 6, 4);
        marchFault("up(w1,r0)", 6, 4);
        marchFault("up(w0,w1,r0)", 9, 4);
        marchFault("up(w0,r0,w1,r0)", 12, 4);
        marchFault("up(w0);down(r1)", 12, 4);
        marchFault("up(w0,w1);any(w0);down(r1)", 23, 4);
        fineMarch("up(w0,w1);down(r1,w0);any(r0)", 3, 5);
    }

    private void marchFaultsOfOnePlace() {
        s.says(5, "Of one place the least.");
        marchFault("up(w0);".repeat(8) + "left(w0)", 56, 1);
        marchFault("up(w0);".repeat(8), 56, 1);
        marchFault("any(w0);".repeat(3) + "anyone(w0)", 24, 1);
        marchFault("up(w0,w0,w0,w0,w0,w0,r1)", 21, 3);
        marchFault("up(w0,w0,w0,w0,w0,w0,q)", 21, 1);
        marchFault("up(w0,w0,w0,w0,w0,w0,)", 21, 1);
        s.says(5, "of the first place along it that is wrong (0 the first byte)");
        marchFault("up(r0);left(w2)", 3, 4);
        marchFault("up(w2,r0)", 4, 1);
        marchFault("up(w0,w0,w0,w0,w0,w0,w0);left", 21, 3);
        marchFault("up(w0)".repeat(9), 6, 1);
    }

    // ---- promises 6 to 8

    private void ofKinds() {
        s.says(6, "Of a KIND what 0: RULES, 1: 1 if it is a PAIR, else 0, 2: PLACEMENTS, 3: NEAR ones.");
        MarchTester x = Tell.with(Tell.kinds("k:1", "k:1,k:1,k:1,a0r:x"));
        for (int n = 2; n <= 6; n++) {
            x.memory(n);
            int[][] want = {{1, 0, n, n}, {4, 1, n * (n - 1), 2 * (n - 1)}};
            for (int what = 0; what < 4; what++) {
                s.due("ofKind(0, " + what + ") of " + n, x.ofKind(0, what), want[0][what]);
                s.due("ofKind(1, " + what + ") of " + n, x.ofKind(1, what), want[1][what]);
            }
        }
        s.says(6, "NONE without these.");
        for (int bad : new int[] {-1, 2, 7, 8, Integer.MIN_VALUE, Integer.MAX_VALUE}) {
            s.due("ofKind(" + bad + ", 0)", x.ofKind(bad, 0), NONE);
        }
        for (int bad : new int[] {-1, 4, Integer.MIN_VALUE, Integer.MAX_VALUE}) {
            s.due("ofKind(0, " + bad + ")", x.ofKind(0, bad), NONE);
        }
        s.due("ofKind(7, 0) of eight", withEightKinds().ofKind(7, 0), 1);
        s.due("ofKind(8, 0) of eight", withEightKinds().ofKind(8, 0), NONE);
    }

    private void ofMarches() {
        s.says(7, "Of a MARCH what 0: ELEMENTS, 1: OPS, 2: READS, 3: any, 4: what a sound memory has behind it (NONE, if nothing is written).");
        String reads = ";up(r1,r1,r1,r1,r1,r1)";
        MarchTester x = Tell.with(Tell.kinds(), "up(w1,r1,r1,r1,r1,r1)" + reads.repeat(7), "any(w0);any(w1);any(r1,w0)", "up(w1)");
        int[][] want = {{8, 48, 47, 0, 1}, {3, 4, 1, 3, 0}, {1, 1, 0, 0, 1}};
        for (int m = 0; m < 3; m++) {
            for (int what = 0; what < 5; what++) {
                s.due("ofMarch(" + m + ", " + what + ")", x.ofMarch(m, what), want[m][what]);
            }
        }
        // an r needs a w ahead of it, so there is no march by which nothing is written
        s.due("a march of an r alone", Tell.march(x, "up(r1)"), -2 - (8 * 3 + 4));
        s.says(7, "NONE without these.");
        for (int bad : new int[] {-1, 3, 5, 6, Integer.MIN_VALUE, Integer.MAX_VALUE}) {
            s.due("ofMarch(" + bad + ", 0)", x.ofMarch(bad, 0), NONE);
        }
        for (int bad : new int[] {-1, 5, Integer.MIN_VALUE, Integer.MAX_VALUE}) {
            s.due("ofMarch(0, " + bad + ")", x.ofMarch(0, bad), NONE);
        }
        s.due("ofMarch(5, 1) of six", withSixMarches().ofMarch(5, 1), 1);
        s.due("ofMarch(6, 1) of six", withSixMarches().ofMarch(6, 1), NONE);
    }

    private void elements() {
        s.says(8, "Of an ELEMENT of a MARCH what 0: 0 up, 1 down, 2 any, 1: OPS, 2 to 7: an OP (0 r 0, 1 r 1, 2 w 0, 3 w 1).");
        MarchTester x = Tell.with(Tell.kinds(), "up(w1,r1,w0,r0,r0,w1);down(r1);any(w0);any(r0);any(w1)",
            "up(w0);".repeat(7) + "down(r0)");
        int[][] want = {{0, 6, 3, 1, 2, 0, 0, 3}, {1, 1, 1}, {2, 1, 2}, {2, 1, 0}, {2, 1, 3}};
        for (int e = 0; e < want.length; e++) {
            for (int what = 0; what < want[e].length; what++) {
                s.due("element(0, " + e + ", " + what + ")", x.element(0, e, what), want[e][what]);
            }
        }
        s.due("element(1, 7, 0)", x.element(1, 7, 0), 1);
        s.due("element(1, 7, 2)", x.element(1, 7, 2), 0);
        s.says(8, "NONE without these.");
        for (int what = 3; what <= 8; what++) {
            s.due("element(0, 1, " + what + "), there is one OP", x.element(0, 1, what), NONE);
        }
        for (int bad : new int[] {-1, 8, Integer.MIN_VALUE, Integer.MAX_VALUE}) {
            s.due("element(0, 0, " + bad + ")", x.element(0, 0, bad), NONE);
            s.due("element(1, " + bad + ", 0)", x.element(1, bad, 0), NONE);
            s.due("element(" + bad + ", 0, 0)", x.element(bad, 0, 0), NONE);
        }
        s.due("element(0, 5, 0)", x.element(0, 5, 0), NONE);
        s.due("element(0, 5, 1)", x.element(0, 5, 1), NONE);
        s.due("element(2, 0, 0)", x.element(2, 0, 0), NONE);
    }
}
