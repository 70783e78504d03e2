import java.io.ByteArrayOutputStream;
import java.io.IOException;
import java.io.OutputStream;
import java.lang.reflect.Method;
import java.net.URI;
import java.nio.charset.StandardCharsets;
import java.nio.file.Files;
import java.nio.file.Path;
import java.util.ArrayList;
import java.util.HashMap;
import java.util.List;
import java.util.Map;
import java.util.TreeMap;
import java.util.concurrent.ExecutionException;
import java.util.concurrent.ExecutorService;
import java.util.concurrent.Executors;
import java.util.concurrent.Future;
import java.util.regex.Matcher;
import java.util.regex.Pattern;
import javax.tools.FileObject;
import javax.tools.ForwardingJavaFileManager;
import javax.tools.JavaCompiler;
import javax.tools.JavaFileManager;
import javax.tools.JavaFileObject;
import javax.tools.SimpleJavaFileObject;
import javax.tools.ToolProvider;

/**
 * No test, but a test of EdgesTest, run by hand: changes MoveUp.java at one place after the other (a sign, a number, a
 * line left out) and tells which changes no sentence of EdgesTest notices.
 */
public final class Mutants {
    private static final Path SOURCE = Path.of("src/main/java/MoveUp.java");
    private static final long MILLIS = 8000;
    private static final String[][] SIGNS = {{" < ", " <= "}, {" <= ", " < "}, {" > ", " >= "}, {" >= ", " > "}, {" == ", " != "},
        {" != ", " == "}, {" && ", " || "}, {" || ", " && "}, {" + ", " - "}, {" - ", " + "}, {" * ", " + "}, {" / ", " * "},
        {" % ", " / "}, {"Math.max", "Math.min"}, {"Math.min", "Math.max"}, {"true", "false"}, {"false", "true"}, {"(!", "("},
        {" !", " "}, {" & ", " | "}, {" | ", " & "}, {"++", "--"}, {"--", "++"}, {" += ", " = "}, {" -= ", " = "}, {"NONE;", "0;"}, {"NOTHING;", "NONE;"}, {"NO_PLACE", "NONE"}, {"KEEP", "BAG"},
        {"WIDE", "BAG"}, {"BAG", "KEEP"}, {"MOVES", "GROUP"}, {"GROUP", "MOVES"}};

    private Mutants() {
    }

    private record Mutant(int line, String was, String is, String source) {
    }

    private static final class Source extends SimpleJavaFileObject {
        private final String text;

        Source(String text) {
            super(URI.create("string:///MoveUp.java"), Kind.SOURCE);
            this.text = text;
        }

        @Override
        public CharSequence getCharContent(boolean ignored) {
            return text;
        }
    }

    private static final class Made extends SimpleJavaFileObject {
        private final ByteArrayOutputStream bytes = new ByteArrayOutputStream();

        Made(String name) {
            super(URI.create("mem:///" + name + ".class"), Kind.CLASS);
        }

        @Override
        public OutputStream openOutputStream() {
            return bytes;
        }
    }

    private static final class InMemory extends ForwardingJavaFileManager<JavaFileManager> {
        private final Map<String, Made> made = new HashMap<>();

        InMemory(JavaFileManager files) {
            super(files);
        }

        @Override
        public JavaFileObject getJavaFileForOutput(Location where, String name, JavaFileObject.Kind kind, FileObject sibling) {
            Made one = new Made(name);
            made.put(name, one);
            return one;
        }
    }

    /** The changed MoveUp and, made anew with it, the tests. */
    private static final class Loader extends ClassLoader {
        private final Map<String, Made> made;

        Loader(Map<String, Made> made) {
            super(Mutants.class.getClassLoader());
            this.made = made;
        }

        @Override
        protected Class<?> loadClass(String name, boolean resolve) throws ClassNotFoundException {
            synchronized (getClassLoadingLock(name)) {
                Class<?> known = findLoadedClass(name);
                if (known != null) {
                    return known;
                }
                byte[] bytes;
                if (made.containsKey(name)) {
                    bytes = made.get(name).bytes.toByteArray();
                } else if (name.contains(".")) {
                    return super.loadClass(name, resolve);
                } else {
                    try (var in = Mutants.class.getResourceAsStream("/" + name + ".class")) {
                        bytes = in.readAllBytes();
                    } catch (IOException e) {
                        throw new ClassNotFoundException(name, e);
                    }
                }
                return defineClass(name, bytes, 0, bytes.length);
            }
        }
    }

    public static void main(String[] args) throws Exception {
        List<Mutant> mutants = mutants(Files.readString(SOURCE, StandardCharsets.UTF_8));
        if (!endOf(new Mutant(0, "", "", Files.readString(SOURCE, StandardCharsets.UTF_8))).equals("not noticed")) {
            throw new IllegalStateException("EdgesTest must pass first");
        }
        ExecutorService workers = Executors.newFixedThreadPool(Runtime.getRuntime().availableProcessors());
        List<Future<String>> ends = new ArrayList<>();
        for (Mutant m : mutants) {
            ends.add(workers.submit(() -> endOf(m)));
        }
        Map<String, Integer> counts = new TreeMap<>();
        for (int i = 0; i < mutants.size(); i++) {
            String end = endOf(ends.get(i));
            counts.merge(end, 1, Integer::sum);
            if (end.equals("not noticed")) {
                Mutant m = mutants.get(i);
                System.out.println(m.line + ": " + m.was.strip() + "   ==>   " + m.is.strip());
            }
        }
        workers.shutdown();
        System.out.println(mutants.size() + " changes: " + counts);
        System.exit(0);
    }

    private static String endOf(Future<String> future) throws InterruptedException {
        try {
            return future.get();
        } catch (ExecutionException e) {
            return "noticed by " + e.getCause().getClass().getSimpleName();
        }
    }

    private static List<Mutant> mutants(String source) {
        List<Mutant> mutants = new ArrayList<>();
        String[] lines = source.split("\n");
        for (int i = 0; i < lines.length; i++) {
            String line = lines[i];
            String code = line.strip();
            if (code.isEmpty() || code.startsWith("*") || code.startsWith("/") || code.startsWith("import")) {
                continue;
            }
            for (String[] sign : SIGNS) {
                for (int at = line.indexOf(sign[0]); at >= 0; at = line.indexOf(sign[0], at + 1)) {
                    add(mutants, lines, i, line.substring(0, at) + sign[1] + line.substring(at + sign[0].length()));
                }
            }
            Matcher number = Pattern.compile("(?<![\\w'])\\d+(?![\\w'])").matcher(line);
            while (number.find()) {
                long n = Long.parseLong(number.group());
                add(mutants, lines, i, line.substring(0, number.start()) + (n + 1) + line.substring(number.end()));
                add(mutants, lines, i, line.substring(0, number.start()) + (n == 0 ? -1 : n - 1) + line.substring(number.end()));
            }
            if (code.endsWith(";") && !code.startsWith("return") && !code.contains(" class ") && !code.startsWith("private ")
                && !code.matches("(final |static |int |boolean |case |default).*") && !code.matches("(break|continue);")) {
                add(mutants, lines, i, ";");
            }
            if (code.matches("(\\} else )?if \\(.*\\) \\{")) {
                add(mutants, lines, i, line.replaceFirst("if \\((.*)\\) \\{$", "if (false && ($1)) {"));
                add(mutants, lines, i, line.replaceFirst("if \\((.*)\\) \\{$", "if (true || ($1)) {"));
            }
        }
        return mutants;
    }

    private static void add(List<Mutant> mutants, String[] lines, int i, String changed) {
        String[] all = lines.clone();
        all[i] = changed;
        mutants.add(new Mutant(i + 1, lines[i], changed, String.join("\n", all)));
    }

    @SuppressWarnings({"deprecation", "removal"})
    private static String endOf(Mutant m) throws Exception {
        JavaCompiler compiler = ToolProvider.getSystemJavaCompiler();
        InMemory files = new InMemory(compiler.getStandardFileManager(null, null, null));
        List<String> options = List.of("--release", "17", "-proc:none", "-Xlint:none");
        if (!compiler.getTask(null, files, d -> { }, options, null, List.of(new Source(m.source))).call()) {
            return "does not compile";
        }
        int[] broken = {-1};
        Thread test = new Thread(() -> {
            try {
                Class<?> edges = new Loader(files.made).loadClass("EdgesTest");
                Method run = edges.getDeclaredMethod("runQuietly");
                run.setAccessible(true);
                broken[0] = (int) run.invoke(null);
            } catch (ReflectiveOperationException | Error e) {
                broken[0] = 1;
            }
        });
        test.start();
        test.join(MILLIS);
        if (test.isAlive()) {
            test.stop();
            return "noticed: does not end";
        }
        return broken[0] == 0 ? "not noticed" : "noticed";
    }
}
