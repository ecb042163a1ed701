import java.lang.reflect.Constructor;
import java.lang.reflect.Field;
import java.lang.reflect.Method;
import java.lang.reflect.Modifier;
import java.nio.charset.StandardCharsets;
import java.nio.file.Files;
import java.nio.file.Path;
import java.util.ArrayList;
import java.util.Arrays;
import java.util.List;
import java.util.Set;
import java.util.TreeSet;
import java.util.regex.Matcher;
import java.util.regex.Pattern;

/** The face of the class, what can be seen of LANGUAGE.md's rules in its text, and what long runs make. */
public final class Language {
    private static final String FACE = "public int feed(int,int,int,int,int);public int end(int);public int kind();"
        + "public int march();public int ofKind(int,int);public int ofMarch(int,int);public int element(int,int,int);"
        + "public int caught(int,int,boolean);public int escape(int,int,boolean,int);public int onTwo(int,int);"
        + "public int covers(int);public int least(int);public int walk(int,int);public boolean memory(int);"
        + "public boolean put(int,int,int);public boolean heal();public int tell(int);public int write(int,int);"
        + "public int read(int);public int run(int,int);public int layout(int,int);public int undo();"
        + "public int cell(int,int);public int log(int,int);public int fits(int);public int parts(int);public int ask();"
        + "public int draws(int);public int drawn(int,int);public int count(int)";
    private static final String[] BARRED = {"throw", "throws", "try", "catch", "finally", "synchronized", "assert",
        "protected", "volatile", "transient", "native", "strictfp", "goto", "var", "yield", "Object", "Thread", "Random",
        "System\\.out", "System\\.exit", "System\\.nanoTime", "System\\.currentTimeMillis", "hashCode", "getClass",
        "->", "::", "@\\w+", "\\w+Exact"};

    private static int wrong = 0;

    private static void check(boolean fine, String what) {
        if (!fine) {
            wrong++;
            System.out.println("Language: " + what);
        }
    }

    private static void face() {
        Class<?> c = MarchTester.class;
        check(Modifier.isPublic(c.getModifiers()) && Modifier.isFinal(c.getModifiers()), "the class is public and final");
        Set<String> want = new TreeSet<>(Arrays.asList(FACE.split(";")));
        Set<String> got = new TreeSet<>();
        Set<String> names = new TreeSet<>();
        List<Method> hidden = new ArrayList<>();
        for (Method m : c.getDeclaredMethods()) {
            if (Modifier.isPrivate(m.getModifiers())) {
                hidden.add(m);
            } else {
                names.add(m.getName());
                StringBuilder types = new StringBuilder();
                for (Class<?> t : m.getParameterTypes()) {
                    types.append(types.length() == 0 ? "" : ",").append(t.getName());
                }
                got.add(Modifier.toString(m.getModifiers()) + " " + m.getReturnType() + " " + m.getName() + "(" + types + ")");
            }
        }
        check(got.equals(want), "the methods are " + got);
        for (Method m : hidden) {
            check(!names.contains(m.getName()), "a private method bears a public one's name: " + m.getName());
        }
        Constructor<?>[] made = c.getDeclaredConstructors();
        check(made.length == 1 && Modifier.isPublic(made[0].getModifiers()) && made[0].getParameterCount() == 0,
            "one public constructor");
        for (Field f : c.getDeclaredFields()) {
            check(Modifier.isPrivate(f.getModifiers()) || f.getName().equals("NONE"), "a field is seen: " + f.getName());
        }
        nested(c, names);
    }

    private static void nested(Class<?> c, Set<String> names) {
        check(c.getDeclaredClasses().length < 12, "at most some twelve classes");
        fields(c);
        for (Class<?> inside : c.getDeclaredClasses()) {
            check(Modifier.isStatic(inside.getModifiers()), "static: " + inside.getName());
            check(!Modifier.isPublic(inside.getModifiers()) && !Modifier.isProtected(inside.getModifiers()),
                "not seen: " + inside.getName());
            fields(inside);
            for (Method m : inside.getDeclaredMethods()) {
                check(m.getParameterCount() <= 7, "at most seven parameters: " + m.getName());
                check(!names.contains(m.getName()), "a method inside bears a public one's name: " + m.getName());
            }
        }
    }

    private static void fields(Class<?> c) {
        int own = 0;
        for (Field f : c.getDeclaredFields()) {
            if (Modifier.isStatic(f.getModifiers())) {
                check(Modifier.isFinal(f.getModifiers()), "a static field is final: " + f.getName());
            } else {
                own++;
            }
        }
        check(own <= 20, "at most twenty fields: " + c.getName() + " has " + own);
    }

    private static String bare(String source) {
        String text = source.replaceAll("(?s)/\\*.*?\\*/", "").replaceAll("//[^\\n]*", "");
        return text.replaceAll("\"(\\\\.|[^\"\\\\])*\"", "\"\"").replaceAll("'(\\\\.|[^'\\\\])'", "' '");
    }

    private static void text() throws Exception {
        String source = Files.readString(Path.of(System.getProperty("source")), StandardCharsets.ISO_8859_1);
        String text = bare(source);
        for (String word : BARRED) {
            String edge = Character.isLetter(word.charAt(0)) ? "\\b" : "";
            Matcher found = Pattern.compile(edge + word + edge).matcher(text);
            check(!found.find(), "the text has " + word);
        }
        Matcher imports = Pattern.compile("import ([^;]*);").matcher(text);
        while (imports.find()) {
            check(imports.group(1).equals("java.util.Arrays"), "it imports " + imports.group(1));
        }
        check(!text.contains("package "), "it has no package");
        check(!Pattern.compile("\"\"\\s*\\+|\\+\\s*\"\"").matcher(text).find(), "no text is joined by +");
        lengths(source.split("\n"));
    }

    /** Methods begin and end at the depth of their class, by the way that the file is laid out. */
    private static void lengths(String[] lines) {
        Pattern begin = Pattern.compile("^( {4}| {8})\\S.*\\) \\{$");
        for (int i = 0; i < lines.length; i++) {
            Matcher m = begin.matcher(lines[i]);
            if (m.matches()) {
                int j = i;
                while (j < lines.length && !lines[j].equals(m.group(1) + "}")) {
                    j++;
                }
                check(j - i < 60, "a method of over sixty lines: " + lines[i].trim());
            }
            check(lines[i].length() <= 120, "a line of over 120 signs: " + (i + 1));
        }
    }

    private static long made() {
        com.sun.management.ThreadMXBean bean =
            (com.sun.management.ThreadMXBean) java.lang.management.ManagementFactory.getThreadMXBean();
        return bean.getThreadAllocatedBytes(Thread.currentThread().getId());
    }

    private static void tellRule(MarchTester x, int i) {
        x.feed('v' << 24 | '0' + (i & 1) << 16 | 'w' << 8 | '0' + (i >> 1 & 1), ':' << 24 | '0' + (i >> 2 & 1) << 16, 0, 0, 0);
        x.end(6);
        x.kind();
    }

    /** A run's dearest calls, 512 of them, stay far below the room of 7.3 million elements. */
    private static void room() {
        MarchTester x = new MarchTester();
        long before = made();
        for (int i = 0; i < 512; i++) {
            x = new MarchTester();
        }
        long objects = made() - before;
        check(objects < 2_000_000, "512 objects take " + objects + " bytes");
        before = made();
        for (int i = 0; i < 512; i++) {
            x.kind();
            x.march();
        }
        long faults = made() - before;
        check(faults < 1_000_000, "1,024 faulty texts take " + faults + " bytes");
        for (int i = 0; i < 8; i++) {
            tellRule(x, i);
        }
        x.feed('u' << 24 | 'p' << 16 | '(' << 8 | 'w', '0' << 24 | ',' << 16 | 'r' << 8 | '0', ')' << 24, 0, 0);
        x.end(9);
        check(x.march() == 0 && x.count(1) == 8, "the room's kinds and march");
        x.run(0, 0);
        before = made();
        for (int i = 0; i < 512; i++) {
            x.least(i & 255);
            x.run(0, 0);
            x.ask();
            x.covers(0);
            x.drawn(0, 50);
        }
        long calls = made() - before;
        check(calls < 1_000_000, "2,560 dear calls take " + calls + " bytes");
    }

    public static void main(String[] args) throws Exception {
        face();
        text();
        room();
        System.out.println(wrong == 0 ? "Language: the class keeps to what can be checked" : "Language: " + wrong + " rules broken");
        if (wrong != 0) {
            System.exit(1);
        }
    }
}
