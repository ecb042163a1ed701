import java.nio.charset.StandardCharsets;
import java.nio.file.Files;
import java.nio.file.Path;

/** Every sentence of the document that names a boundary case, with tests of its own. */
public final class Boundaries {
    private Boundaries() {
    }

    public static void main(String[] args) throws Exception {
        String document = Files.readString(Path.of(System.getProperty("document")), StandardCharsets.UTF_8);
        Sentences s = new Sentences(document);
        new TextEdges(s).all();
        new CatchEdges(s).all();
        new LiveEdges(s).all();
        new GuessEdges(s).all();
        if (s.finish() != 0) {
            System.exit(1);
        }
    }
}
