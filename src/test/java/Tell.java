import java.util.ArrayList;
import java.util.List;

/** Texts told to an object, objects with much in them, and all that can be seen of one. */
final class Tell {
    static final String MATS = "any(w0); up(r0,w1); down(r1,w0)";

    private Tell() {
    }

    /** Puts the bytes of a text behind the tape, as far as there is room. */
    static void feed(MarchTester x, String text) {
        int before = x.count(10);
        for (int from = 0; from < text.length(); from += 20) {
            int[] w = new int[5];
            for (int i = 0; i < 20; i++) {
                int b = from + i < text.length() ? text.charAt(from + i) : 0;
                w[i / 4] = w[i / 4] << 8 | b;
            }
            x.feed(w[0], w[1], w[2], w[3], w[4]);
        }
        x.end(before + text.length());
    }

    static int kind(MarchTester x, String text) {
        feed(x, text);
        return x.kind();
    }

    static int march(MarchTester x, String text) {
        feed(x, text);
        return x.march();
    }

    static MarchTester with(String[] kinds, String... marches) {
        MarchTester x = new MarchTester();
        for (String k : kinds) {
            kind(x, k);
        }
        for (String m : marches) {
            march(x, m);
        }
        return x;
    }

    static String[] kinds(String... texts) {
        return texts;
    }

    /** A memory with a fault, a scrambled layout, a log, acts to undo, an x and "k:1" on the tape. */
    static MarchTester rich() {
        MarchTester x = with(kinds("k:1", "a0w1:x", "s1:0,s0:1"), MATS, "up(w1);up(r1)");
        x.tell(9);
        x.layout(0, 2);
        x.put(1, 2, 1);
        x.run(0, 1);
        x.write(3, 1);
        x.draws(77);
        feed(x, "k:1");
        return x;
    }

    /** By march 0 kind 0, its a in cell 0 and its v in cell 1, fails unless the cells are these ahead. */
    static MarchTester oneWayOut(int contents) {
        // w 0 makes or leaves v a 1 where v, or a, is not as in the contents; a that comes behind v is not mended
        String kind = "v" + (1 - (contents >> 1)) + "w0:1,a" + (1 - (contents & 1)) + "w0:1";
        return with(kinds(kind), "down(w0);down(r0)");
    }

    /** All that can be seen of an object, its acts undone and its tape read at the end; some 250 calls. */
    static List<Integer> all(MarchTester x) {
        List<Integer> seen = new ArrayList<>();
        for (int what = 0; what <= 10; what++) {
            seen.add(x.count(what));
        }
        for (int k = 0; k < 8; k++) {
            for (int what = 0; what < 4; what++) {
                seen.add(x.ofKind(k, what));
            }
        }
        for (int m = 0; m < 6; m++) {
            for (int what = 0; what < 5; what++) {
                seen.add(x.ofMarch(m, what));
            }
        }
        for (int what = 0; what < 4; what++) {
            seen.add(x.fits(what));
        }
        seen.add(x.ask());
        seen.add(x.drawn(0, 50));
        look(x, seen);
        for (int i = 0; i < 20; i++) {
            seen.add(x.undo());
            seen.add(x.count(3));
            seen.add(x.count(6));
            seen.add(x.count(7));
            seen.add(x.cell(0, 0));
        }
        look(x, seen);
        seen.add(x.kind());
        seen.add(x.count(1));
        return seen;
    }

    private static void look(MarchTester x, List<Integer> seen) {
        for (int k = 0; k < 6; k++) {
            seen.add(x.cell(k, 0));
            seen.add(x.cell(k, 1));
        }
        for (int k = 0; k < 4; k++) {
            seen.add(x.log(k, 0));
            seen.add(x.log(k, 1));
        }
    }
}
