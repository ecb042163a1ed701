import java.util.HashSet;
import java.util.List;
import java.util.Set;
import java.util.function.Supplier;
import java.util.function.ToLongFunction;

/**
 * Sentences of the document, each quoted as it stands there and followed by the calls that would tell if it were
 * broken. In the end every sentence of the terms and of the promises must have been quoted.
 */
final class Sentences {
    private static final int PROMISES = 31;

    private final String document;
    private final boolean[] quoted;
    private final Set<Integer> promises = new HashSet<>();
    private int promise = 0;
    private String sentence = "";
    private int askedOfIt = 1;
    private int asked = 0;
    private int sentences = 0;
    private int wrong = 0;

    Sentences(String document) {
        this.document = document.replaceAll("\\s+", " ");
        quoted = new boolean[this.document.length()];
    }

    private void complain(String what) {
        wrong++;
        System.out.println("promise " + promise + ", \"" + sentence + "\": " + what);
    }

    /** The calls that follow are of this sentence. */
    void says(int promise, String sentence) {
        if (askedOfIt == 0) {
            complain("it has no test");
        }
        this.promise = promise;
        this.sentence = sentence;
        askedOfIt = 0;
        sentences++;
        promises.add(promise);
        int own = document.indexOf("## Promise " + promise + ":");
        int at = document.substring(0, document.indexOf("## ", own + 1)).indexOf(sentence, own);
        quote(at >= 0 ? at : document.substring(0, document.indexOf("## Promise 1:")).indexOf(sentence));
    }

    private void quote(int at) {
        if (at < 0) {
            complain("neither the promise nor the terms say this");
            return;
        }
        for (int i = at; i < at + sentence.length(); i++) {
            quoted[i] = true;
        }
    }

    void due(String call, long got, long want) {
        asked++;
        askedOfIt++;
        if (got != want) {
            complain(call + " answered " + got + ", due is " + want);
        }
    }

    void due(String call, boolean got, boolean want) {
        due(call, got ? 1 : 0, want ? 1 : 0);
    }

    void due(String call, List<Integer> got, List<Integer> want) {
        asked++;
        askedOfIt++;
        if (!got.equals(want)) {
            complain(call + " answered " + got + ", due is " + want);
        }
    }

    /** The call answers so, and all that can be seen then is as if it had not been. */
    void refused(String call, Supplier<MarchTester> scene, ToLongFunction<MarchTester> done, long want) {
        MarchTester x = scene.get();
        due(call, done.applyAsLong(x), want);
        due("nothing happens by " + call, Tell.all(x), Tell.all(scene.get()));
    }

    /** From the terms on, all but the headings, the signatures and what is not promised must be quoted. */
    private void unquoted() {
        promise = 0;
        sentence = "the document";
        int from = Math.max(0, document.indexOf("## Terms"));
        int to = Math.max(from, document.indexOf("## Not promised"));
        String text = document.substring(from, to);
        StringBuilder rest = new StringBuilder();
        for (int i = 0; i < text.length(); i++) {
            rest.append(quoted[from + i] ? '\u0001' : text.charAt(i));
        }
        String left = rest.toString().replaceAll("## Terms|==== I[IV]+\\.|```(text)?", " ")
            .replaceAll("## Promise \\d+: [A-Za-z ]+ `[^`]*`:?", " ");
        for (String piece : left.split("\u0001+")) {
            if (piece.matches(".*[A-Za-z0-9].*")) {
                complain("not quoted: " + piece.trim());
            }
        }
    }

    /** How many are wrong. */
    int finish() {
        if (askedOfIt == 0) {
            complain("it has no test");
        }
        unquoted();
        for (int p = 1; p <= PROMISES; p++) {
            if (!promises.contains(p)) {
                complain("promise " + p + " has no sentence");
            }
        }
        System.out.println("Boundaries: " + sentences + " sentences, " + asked + " answers, " + wrong + " wrong");
        return wrong;
    }
}
