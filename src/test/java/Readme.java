import java.lang.reflect.Method;
import java.lang.reflect.Modifier;
import java.net.URL;
import java.net.URLClassLoader;
import java.nio.charset.StandardCharsets;
import java.nio.file.Files;
import java.nio.file.Path;
import java.util.ArrayList;
import java.util.List;
import java.util.regex.Matcher;
import java.util.regex.Pattern;
import java.util.stream.Stream;
import javax.tools.ToolProvider;

/** README.md: its Java is compiled and run, each answer told behind a call must come, and every call must be named. */
public final class Readme {
    private static final Pattern BLOCK = Pattern.compile("(?s)```java\\n(.*?)```");
    private static final Pattern ANSWERED = Pattern.compile("(?:int (\\w+) = )?(x\\.\\w+\\(.*\\)); *// (-?\\d+|true|false)\\b.*");

    /** Called by the compiled lines. */
    private static int asked = 0;
    private static int wrong = 0;

    private Readme() {
    }

    public static void due(String call, Object got, String want) {
        asked++;
        if (!got.toString().equals(want)) {
            complain(call + " answered " + got + ", README.md says " + want);
        }
    }

    private static void complain(String what) {
        wrong++;
        System.out.println("Readme: " + what);
    }

    private static String checked(String line) {
        Matcher m = ANSWERED.matcher(line);
        if (!m.matches()) {
            return line;
        }
        String call = m.group(2);
        String quoted = call.replace("\\", "\\\\").replace("\"", "\\\"");
        String kept = m.group(1) == null ? "" : "int " + m.group(1) + " = " + call + "; ";
        String value = m.group(1) == null ? call : m.group(1);
        return kept + "Readme.due(\"" + quoted + "\", " + value + ", \"" + m.group(3) + "\");";
    }

    /** The first block is a method, the second one a run of calls. */
    private static String program(List<String> blocks) {
        StringBuilder text = new StringBuilder("public final class ReadmeLines {\n");
        text.append(blocks.get(0)).append("public static void go() {\n");
        for (String line : blocks.get(1).split("\n")) {
            text.append(checked(line)).append('\n');
        }
        return text.append("}\n}\n").toString();
    }

    private static void runLines(List<String> blocks) throws Exception {
        Path work = Files.createTempDirectory("readme");
        Path file = work.resolve("ReadmeLines.java");
        Files.writeString(file, program(blocks));
        int code = ToolProvider.getSystemJavaCompiler().run(null, null, null, "-cp", System.getProperty("java.class.path"),
            "-d", work.toString(), file.toString());
        if (code != 0) {
            complain("its Java does not compile");
        } else {
            try (URLClassLoader loader = new URLClassLoader(new URL[] {work.toUri().toURL()}, Readme.class.getClassLoader())) {
                loader.loadClass("ReadmeLines").getMethod("go").invoke(null);
            }
        }
        try (Stream<Path> made = Files.list(work)) {
            for (Path p : (Iterable<Path>) made::iterator) {
                Files.delete(p);
            }
        }
        Files.delete(work);
    }

    public static void main(String[] args) throws Exception {
        String readme = Files.readString(Path.of(System.getProperty("readme")), StandardCharsets.UTF_8);
        for (Method m : MarchTester.class.getDeclaredMethods()) {
            if (Modifier.isPublic(m.getModifiers()) && !readme.contains("`" + m.getName() + "`")) {
                complain(m.getName() + " is not named");
            }
        }
        if (!readme.contains("`.ci/run`")) {
            complain("it does not say how to run the tests");
        }
        List<String> blocks = new ArrayList<>();
        Matcher found = BLOCK.matcher(readme);
        while (found.find()) {
            blocks.add(found.group(1));
        }
        if (blocks.size() == 2) {
            runLines(blocks);
        } else {
            complain("it has " + blocks.size() + " blocks of Java, not two");
        }
        System.out.println("Readme: " + asked + " answers, " + wrong + " wrong");
        if (wrong != 0 || asked == 0) {
            System.exit(1);
        }
    }
}
