import java.util.ArrayList;
import java.util.List;
import java.util.Random;

/** Random runs of calls on MarchTester and on PlainTester side by side: every answer must be the same. */
public final class AgainstPlain {
    private static final String[] RULES = {"v0w1:0", "v1w0:1", "v0w0:1", "v1w1:0", "v0r:1/1", "v0r:1/0", "v1r:0/0",
        "v1r : 0 / 1", "a0w1:x", "a1w0:x", "a0w1:0", "a1w0:1", "a0w0:1", "a1w1:0", "a0r:1", "a1r:x", "a0r:0",
        "s0:0", "s0:1", "s1:0", "s1:1", "k:0", "k:1", "v1w1:1", "v0r:0/0"};
    private static final String[] LONERS = {"n:0", "n:1", "m", "b:0", "b:1"};
    /** Sets whose LEAST is the 1,200th STATE, the 1,201st or 1,202nd, of 9 OPS or 10, or hangs on one step or contents. */
    private static final String[] EDGES = {"a1r:0 a1w1:x s0:0", "a1r:x,a1w1:1 a1w1:0 a1w0:0", "a0w1:x s1:1 a1w0:0",
        "a1w0:0 a0w1:1", "a0w0:0 a0r:0", "a0r:0 a1r:0", "a0r:0,v1w0:1", "a1w1:0 a0w0:0 a1w1:1", "a0w0:0 a1w1:x a1w1:1",
        "a1w1:0 v1w0:1,a0w1:x s0:0,a0w1:0,v1w1:0,a0w0:0", "a0w0:x v1w1:0,a1r:0,a1w1:0 a1r:x,a1w0:1,s0:0",
        "m s0:0,v1w0:1,v0w1:0", "a0r:x,s0:1,v0w1:0 v1w1:0 a0w1:0", "a1w0:0,s1:1,v1w0:1", "a1w1:0,s0:0,v0w1:0",
        "a1w0:1 a1w1:0 b:1 s1:0"};
    private static final String SIGNS = "vasknmb01wrx:,/; ()updowany\u00ffA";

    private final Random random;
    private final MarchTester subject = new MarchTester();
    private final PlainTester plain = new PlainTester();
    private final List<String> done = new ArrayList<>();
    private int dear = 3;

    private AgainstPlain(long seed) {
        random = new Random(seed);
    }

    private void same(String call, long got, long want) {
        done.add(call + " = " + want);
        if (got != want) {
            for (String row : done) {
                System.out.println(row);
            }
            throw new IllegalStateException(call + " answered " + got + ", plainly it is " + want);
        }
    }

    private static int bit(boolean b) {
        return b ? 1 : 0;
    }

    private int upTo(int n) {
        return random.nextInt(n);
    }

    private int about(int low, int high) {
        int sort = upTo(40);
        if (sort == 0) {
            return random.nextInt();
        }
        if (sort == 1) {
            return new int[] {Integer.MIN_VALUE, Integer.MAX_VALUE, -1, -2, low - 1, high + 1}[upTo(6)];
        }
        return low + upTo(high - low + 1);
    }

    private int aMarch() {
        return about(0, Math.max(0, plain.count(2) - 1));
    }

    private int aKind() {
        return about(0, Math.max(0, plain.count(1) - 1));
    }

    private String kindText() {
        if (upTo(4) == 0) {
            return LONERS[upTo(LONERS.length)];
        }
        int n = 1 + Math.min(upTo(4), upTo(4));
        StringBuilder text = new StringBuilder();
        for (int i = 0; i < n; i++) {
            text.append(i == 0 ? "" : upTo(3) == 0 ? " , " : ",").append(RULES[upTo(RULES.length)]);
        }
        return text.toString();
    }

    private String marchText(int mostElements, int mostOps) {
        int n = 1 + upTo(mostElements);
        int sound = -1;
        int anys = 0;
        StringBuilder text = new StringBuilder();
        for (int i = 0; i < n; i++) {
            String way = new String[] {"up", "down", "any"}[upTo(3)];
            if (way.equals("any") && anys++ >= 3 && upTo(10) > 0) {
                way = "up";
            }
            text.append(i == 0 ? "" : upTo(4) == 0 ? " ; " : ";").append(way).append('(');
            int ops = 1 + upTo(mostOps);
            for (int k = 0; k < ops; k++) {
                text.append(k == 0 ? "" : ",");
                if (sound < 0 || upTo(2) == 0) {
                    sound = upTo(2);
                    text.append('w').append(sound);
                } else {
                    text.append('r').append(sound);
                }
            }
            text.append(')');
        }
        return text.toString();
    }

    private String spoiled(String text) {
        StringBuilder t = new StringBuilder(text);
        for (int i = 1 + upTo(2); i > 0; i--) {
            int at = upTo(t.length() + 1);
            char sign = SIGNS.charAt(upTo(SIGNS.length()));
            int sort = upTo(4);
            if (sort == 0) {
                t.insert(at, sign);
            } else if (sort == 1 && at < t.length()) {
                t.setCharAt(at, sign);
            } else if (sort == 2 && at < t.length()) {
                t.deleteCharAt(at);
            } else if (sort == 3) {
                t.setLength(at);
            }
        }
        return t.toString();
    }

    private void feedText(String text) {
        for (int from = 0; from < text.length(); from += 20) {
            int[] w = new int[5];
            for (int i = 0; i < 20; i++) {
                int b = from + i < text.length() ? text.charAt(from + i) : 0;
                w[i / 4] = w[i / 4] << 8 | b;
            }
            same("feed \"" + text + "\" from " + from, subject.feed(w[0], w[1], w[2], w[3], w[4]),
                plain.feed(w[0], w[1], w[2], w[3], w[4]));
        }
        same("end(" + text.length() + ")", subject.end(text.length()), plain.end(text.length()));
    }

    private void tellKind() {
        String text = kindText();
        feedText(upTo(3) == 0 ? spoiled(text) : text);
        same("kind()", subject.kind(), plain.kind());
        same("end(0)", subject.end(0), plain.end(0));
    }

    private void tellMarch() {
        String text = upTo(6) == 0 ? marchText(10, 7) : upTo(3) == 0 ? marchText(8, 6) : marchText(5, 4);
        feedText(upTo(3) == 0 ? spoiled(text) : text);
        same("march()", subject.march(), plain.march());
        same("end(0)", subject.end(0), plain.end(0));
    }

    private void look() {
        int i = aMarch();
        int k = about(0, 8);
        int w = about(0, 11);
        switch (upTo(6)) {
            case 0: same("ofKind(" + k + ", " + (w - 3) + ")", subject.ofKind(k, w - 3), plain.ofKind(k, w - 3)); break;
            case 1: same("ofMarch(" + i + ", " + (w - 3) + ")", subject.ofMarch(i, w - 3), plain.ofMarch(i, w - 3)); break;
            case 2: same("element(" + i + ", " + k + ", " + w + ")", subject.element(i, k, w), plain.element(i, k, w)); break;
            case 3: same("cell(" + k + ", " + (w - 2) + ")", subject.cell(k, w - 2), plain.cell(k, w - 2)); break;
            case 4: {
                int at = about(0, 70);
                same("log(" + at + ", " + (w & 1) + ")", subject.log(at, w & 1), plain.log(at, w & 1));
                same("log(" + k + ", " + (w - 2) + ")", subject.log(k, w - 2), plain.log(k, w - 2));
                break;
            }
            default: same("count(" + w + ")", subject.count(w), plain.count(w));
        }
    }

    private void judge() {
        int m = aMarch();
        int k = aKind();
        boolean near = random.nextBoolean();
        int w = about(0, 3);
        switch (upTo(6)) {
            case 0: same("caught(" + m + ", " + k + ", " + near + ")", subject.caught(m, k, near), plain.caught(m, k, near)); break;
            case 1:
            case 2: same("escape(" + m + ", " + k + ", " + near + ", " + w + ")", subject.escape(m, k, near, w),
                plain.escape(m, k, near, w)); break;
            case 3: same("onTwo(" + m + ", " + k + ")", subject.onTwo(m, k), plain.onTwo(m, k)); break;
            case 4: same("covers(" + m + ")", subject.covers(m), plain.covers(m)); break;
            default: {
                int x = about(0, Integer.MAX_VALUE - 1);
                int many = about(1, 50);
                same("draws(" + x + ")", subject.draws(x), plain.draws(x));
                same("drawn(" + m + ", " + many + ")", subject.drawn(m, many), plain.drawn(m, many));
            }
        }
    }

    private void judgeSet() {
        int set = upTo(12) == 0 ? about(0, 255) : upTo(1 << Math.min(8, plain.count(1)));
        if (Integer.bitCount(set) > 3 && upTo(4) > 0) {
            set &= random.nextInt();
        }
        judgeSet(set);
    }

    private void judgeSet(int set) {
        same("least(" + set + ")", subject.least(set), plain.least(set));
        for (int k = -2; k < 11; k++) {
            same("walk(" + set + ", " + k + ")", subject.walk(set, k), plain.walk(set, k));
        }
    }

    private void tellKinds(String... texts) {
        for (String text : texts) {
            feedText(text);
            same("kind()", subject.kind(), plain.kind());
        }
    }

    /** Sets with many STATES, with a LEAST of many OPS, with none, and UNKNOWN ones. */
    private void judgeSets(String... texts) {
        tellKinds(texts);
        for (int set = 1; set < 1 << texts.length; set = set + 1 + upTo(12)) {
            judgeSet(set);
        }
    }

    private void live() {
        int n = plain.count(0);
        int one = about(0, n - 1);
        int other = about(0, n - 1);
        switch (upTo(9)) {
            case 0: {
                int k = aKind();
                int a = plain.ofKind(k, 1) == 1 && upTo(8) > 0 ? one : -1;
                same("put(" + k + ", " + a + ", " + other + ")", bit(subject.put(k, a, other)), bit(plain.put(k, a, other)));
                break;
            }
            case 1:
                if (upTo(3) == 0) {
                    same("heal()", bit(subject.heal()), bit(plain.heal()));
                }
                break;
            case 2: {
                int contents = about(0, (1 << n) - 1);
                same("tell(" + contents + ")", subject.tell(contents), plain.tell(contents));
                break;
            }
            case 3: {
                int d = about(0, 1);
                same("write(" + one + ", " + d + ")", subject.write(one, d), plain.write(one, d));
                break;
            }
            case 4: same("read(" + one + ")", subject.read(one), plain.read(one)); break;
            case 5:
            case 6: {
                int m = aMarch();
                int choice = about(0, 7);
                same("run(" + m + ", " + choice + ")", subject.run(m, choice), plain.run(m, choice));
                for (int k = 0; k < Math.min(4, plain.count(7) + 1); k++) {
                    same("log(" + k + ", 0)", subject.log(k, 0), plain.log(k, 0));
                    same("log(" + k + ", 1)", subject.log(k, 1), plain.log(k, 1));
                }
                break;
            }
            case 7: same("layout(" + one + ", " + other + ")", subject.layout(one, other), plain.layout(one, other)); break;
            default:
                for (int i = upTo(8) == 0 ? upTo(25) : upTo(3); i > 0; i--) {
                    same("undo()", subject.undo(), plain.undo());
                }
        }
        same("count(6)", subject.count(6), plain.count(6));
        same("count(7)", subject.count(7), plain.count(7));
    }

    private void diagnose() {
        int m = aMarch();
        int w = about(0, 3);
        switch (upTo(3)) {
            case 0: same("fits(" + w + ")", subject.fits(w), plain.fits(w)); break;
            case 1: same("parts(" + m + ")", subject.parts(m), plain.parts(m)); break;
            default:
                if (plain.count(0) < 5) {
                    same("ask()", subject.ask(), plain.ask());
                }
        }
    }

    private void go() {
        for (int i = upTo(6); i > 0; i--) {
            feedText(kindText());
            same("kind()", subject.kind(), plain.kind());
        }
        for (int i = upTo(4); i > 0; i--) {
            feedText(upTo(4) == 0 ? marchText(8, 6) : marchText(5, 4));
            same("march()", subject.march(), plain.march());
        }
        while (done.size() < 500) {
            int sort = upTo(100);
            if (sort < 4) {
                tellKind();
            } else if (sort < 7) {
                tellMarch();
            } else if (sort < 30) {
                look();
            } else if (sort < 40) {
                judge();
            } else if (sort < 41 && dear > 0) {
                dear--;
                judgeSet();
            } else if (sort < 46) {
                diagnose();
            } else if (sort < 47) {
                int n = about(2, 6);
                same("memory(" + n + ")", bit(subject.memory(n)), bit(plain.memory(n)));
            } else {
                live();
            }
        }
    }

    public static void main(String[] args) {
        long first = args.length > 0 ? Long.parseLong(args[0]) : 1;
        int runs = args.length > 1 ? Integer.parseInt(args[1]) : 60;
        int wrong = 0;
        for (long seed = first; seed < first + runs; seed++) {
            try {
                if (seed == first) {
                    new AgainstPlain(seed).judgeSets("a0w1:x", "a1w0:x", "a0w1:0", "a1w0:1", "v0r:1/0", "v1r:0/1", "a0r:x");
                    // STATES that differ in their first kind alone, and share a slot of the search's table
                    AgainstPlain one = new AgainstPlain(seed);
                    one.tellKinds("m", "v1r:0/1", "k:0", "n:1", "n:1", "v0w0:1", "s1:0", "a0w0:1");
                    one.judgeSet(191);
                    for (String set : EDGES) {
                        AgainstPlain edge = new AgainstPlain(seed);
                        String[] kinds = set.split(" ");
                        edge.tellKinds(kinds);
                        edge.judgeSet((1 << kinds.length) - 1);
                    }
                    new AgainstPlain(seed).judgeSets("m", "b:0", "s0:1", "v0w0:1,a0w0:x", "v1w1:0", "v0w1:1", "a1r:0,k:1");
                }
                new AgainstPlain(seed).go();
            } catch (RuntimeException e) {
                wrong++;
                System.out.println("seed " + seed + ": " + e);
                if (!(e instanceof IllegalStateException)) {
                    e.printStackTrace(System.out);
                }
            }
        }
        System.out.println("AgainstPlain: " + (runs - wrong) + " of " + runs + " random runs agree");
        if (wrong != 0) {
            System.exit(1);
        }
    }
}
