/**
 * Sets of KINDS, with the WALK of each, or with what LEAST answers if there is none. If a STEP were missing, if the ways
 * or the OPS came in another order, or the last OP were looked at first, some of these would not be so. The sets were
 * found by a search over random ones; the walks, by a plain program that was made from the document.
 */
final class WalkRows {
    static final String[][] ROWS = {
        {"a0r:1 a0w1:1 b:1", "up(w0);up(r0,w1);up(w0);down(r0,w1)"},
        {"a0r:0,v1w0:1 v1w0:0,a0w0:0", "up(w0);up(r0,w0,w1);up(r1,w0,w0);down(r0)"},
        {"a0r:x v0r:1/0 a0r:1 a0w0:x k:0", "up(w1);up(r1,w0,w0);up(r0);up(r0)"},
        {"a0r:x v0r:1/0 a0r:1 s1:0 a0w0:0,a1w1:0", "-3"},
        {"s1:1 a0w0:0 k:1 s1:0", "up(w0);up(r0,w0,w1);up(r1,w0,w0);up(r0)"},
        {"a0r:0 a1w0:x", "up(w1);up(r1,w0,r0);up(r0,w1);up(r1)"},
        {"k:1,s0:0", "up(w0);up(r0,w1,r1)"},
        {"v0r:1/0,a1w0:0 s1:1 k:0 v1w1:0 s0:1", "-3"},
        {"v1w1:0,a1w0:1 a0w1:1,v0w0:0 m m", "up(w0);up(r0,w1,w0);up(r0,w1)"},
        {"v1w1:0 a0r:x b:0", "up(w0);up(r0,w1,w1);up(r1,w0)"},
        {"a1r:x v1r:0/1 a1r:0 a1w1:0 v1w0:1", "-3"},
        {"v0w1:0,a1w0:x", "up(w0,w1,r1)"},
        {"a0w0:0 a1w0:0", "up(w1);up(w0,w0,w1);up(r1,w0,w0)"},
        {"a1w1:1 a0w1:1 a0r:x", "up(w0);up(w1,w1,w0);up(r0,w1,w1);up(r1)"},
        {"a0w1:x a0w0:0 v1w1:0", "up(w0);up(w0,w1,w1);up(r1,w0,w0);down(w1);up(r1)"},
        {"a1r:0 a1w1:1 v0w0:1,v0w1:1", "up(w1);up(w1,w0,w0);up(r0,w1,w1);up(r1);up(r1)"},
        {"s1:0,v1w0:1 a1r:1,v1r:0/1,v1r:0/1 v0w0:1,s0:0 n:0 v1r:0/0", "up(w0,r0,w1);up(r1,r1)"},
        {"a1r:x a0w0:0", "up(w1);up(r1,w0,w0);up(w0,w1);down(r1)"},
        {"v1r:1/1,a1w0:x,s1:1", "up(w1);up(r1,w0,r0)"},
        {"a0r:0,v1w0:1 n:1", "up(w1,w0,r0)"},
        {"a0r:x v0r:1/0 a0r:1 v1w1:0 v0w0:1", "-3"},
        {"a1w1:0 a0w0:0 v0r:0/1", "up(w0);up(w0,w1);up(r1,w1);up(r1,w0,w0);up(r0)"},
        {"s0:0 a0w1:1", "up(w0);up(w1,r1,w0);up(r0,w1)"},
        {"a0w1:1,v1w0:0 s1:0", "up(w0);up(w1,w0);up(r0,w1);up(r1)"},
        {"v1w0:0,v1r:0/0 b:1 a1r:1,a0w0:x,a1r:0 a1w0:x", "up(w1);up(r1,w0);up(r0,w0,w1)"},
        {"a0w0:1,a0w1:1,s1:1", "up(w0);up(r0,w0)"},
        {"a1w0:0 v1w0:0 s1:1 a0w0:0", "-3"},
        {"a1w1:x s1:0 v0w0:0,a0w0:x", "-3"},
        {"v1w0:0,v0w0:1,s1:1 s0:1 n:1 s1:0", "up(w1);up(r1);up(w0,w0);up(r0)"},
        {"s0:0 v1w1:0", "up(w0);up(w1,w1);up(r1,w0)"},
        {"v0w0:0 a1w0:x s1:0 a0r:1", "-3"},
        {"v1w1:0 n:0 k:1 v1w0:0 a0w1:x,v1w1:0", "-3"},
        {"v0w0:1,a0r:0", "up(w0,r0);up(w0);up(r0)"},
        {"a1w1:0 b:0 s0:0", "up(w0);up(w1);up(r1,w1);up(r1,w0)"},
        {"a1w1:1 a1w1:0,s0:1 a0w1:0,v0w0:0 n:1", "-3"},
        {"n:0 a1w0:1", "up(w1);up(r1);up(w0);up(r0,w1,w0)"},
        {"a0r:x a0r:1 a1w0:x a0r:0", "-3"},
        {"s0:0,v1w0:0 b:0 a0w0:1,a0w1:0", "up(w0);up(w1);up(r1,w0);down(w0);up(r0)"},
        {"v1r:0/0 a1w1:1 a0w0:x,v0w1:1 m", "-3"},
        {"k:1 a1w0:0 v1w1:0,a1w0:0 k:1 a0w0:x", "-3"},
        {"k:1 v1w0:1,a1r:0 v0w1:0 a0r:x a1w0:1", "up(w1);up(w0);up(r0);up(w1);up(r1);down(w0);down(r0)"},
        {"s0:0 a1w1:x", "up(w0);up(w1);up(r1,w1,w0);up(r0)"},
        {"v0w0:1,a0w0:1", "up(w0,w0);up(r0)"},
        {"a1r:x a1r:0 a1w0:0 m", "up(w1);up(r1,w0);up(w1);down(r1,w0)"},
        {"a1w0:1 v1w0:1,v0w1:1,s1:0", "up(w1,w0);up(r0);down(w1,w0);up(r0)"},
        {"a0w1:1 v0w0:1 k:0,a1w1:0,v0w0:1", "up(w0);up(w1,w0,w0);up(r0,w1);up(r1)"},
        {"v1r:0/0 v0w0:1 s0:1 a1w1:0,v1w1:0", "up(w1,w1);up(r1);up(w0);up(w0);up(r0)"},
        {"s0:1,s0:1,a1w0:1 k:1,s0:0,a0w0:1 s0:1 a0w0:0 s0:1", "up(w0);up(w0,w1,r1);up(r1,w0,w0);up(r0)"},
        {"a0w0:0 a1w1:1 a0w0:x", "-3"},
        {"a0w0:x a0r:0,v0w0:1 m", "-3"},
        {"v0w1:1 a0w0:1 a0w0:x b:0", "-3"},
        {"b:1 n:1 k:0 a0w0:x a0r:x,a0w0:1", "-3"}
    };

    private WalkRows() {
    }

    /** The OPS of a march as walk tells them: 100 times the element, 10 more of one that goes down, and the OP. */
    static int[] told(String march) {
        String[] elements = march.split(";");
        int[] told = new int[march.replaceAll("[^01]", "").length()];
        int n = 0;
        for (int e = 0; e < elements.length; e++) {
            int way = elements[e].startsWith("down") ? 10 : 0;
            for (String op : elements[e].replaceAll("up|down|[()]", "").split(",")) {
                told[n] = 100 * e + way + (op.charAt(0) == 'w' ? 2 : 0) + op.charAt(1) - '0';
                n++;
            }
        }
        return told;
    }
}
