import java.io.IOException;
import java.lang.reflect.Constructor;
import java.lang.reflect.Field;
import java.lang.reflect.Method;
import java.lang.reflect.Modifier;
import java.nio.charset.StandardCharsets;
import java.nio.file.Files;
import java.nio.file.Path;
import java.util.Arrays;
import java.util.List;
import java.util.Set;
import java.util.TreeSet;
import java.util.regex.Matcher;
import java.util.regex.Pattern;

/** The rules of ../shared/LANGUAGE.md that can be seen from the source and the class, and the face. */
public final class LanguageTest {
    private static final Path SOURCE = Path.of("src/main/java/MoveUp.java");
    private static final List<String> FACE = List.of("bench(int)boolean", "rest(int,boolean)boolean",
        "person(int,int,int,int,int)int", "set(int,int,int)boolean", "come(int)int", "go(int)boolean", "beg(int)int",
        "feed(int,int,int,int,int)int", "end(int)boolean", "text(int)int", "fault(int)int", "hours(int)int",
        "of(int,int)int", "at(int,int)int", "tells(int,int)int", "book(int,int)int", "room(int,int)int",
        "rise(int,int)int", "fill(int,int,int)int", "bestRest(int,int)int", "block(int,int,int)int", "orders(int)int",
        "gives(int,int)int", "stands(int)int", "undo()boolean", "image(boolean)boolean", "look(int)int");
    private static int wrong = 0;

    public static void main(String[] args) throws IOException {
        String source = Files.readString(SOURCE, StandardCharsets.UTF_8);
        String code = source.replaceAll("(?s)/\\*.*?\\*/", "").replaceAll("//[^\n]*", "");
        face();
        words(code);
        methods(source);
        System.out.println(wrong == 0 ? "the language's rules are kept" : wrong + " rules are broken");
        if (wrong != 0) {
            System.exit(1);
        }
    }

    private static void broken(String what) {
        wrong++;
        System.out.println(what);
    }

    private static void face() {
        Set<String> due = new TreeSet<>(FACE);
        Set<String> names = new TreeSet<>();
        for (Method m : MoveUp.class.getDeclaredMethods()) {
            if (Modifier.isPrivate(m.getModifiers()) || m.isSynthetic()) {
                continue;
            }
            StringBuilder s = new StringBuilder();
            for (Class<?> c : m.getParameterTypes()) {
                s.append(s.length() > 0 ? "," : "").append(c);
            }
            String is = m.getName() + "(" + s + ")" + m.getReturnType();
            names.add(m.getName());
            if (!due.remove(is) || !Modifier.isPublic(m.getModifiers()) || Modifier.isStatic(m.getModifiers())) {
                broken("not of the face: " + is);
            }
        }
        due.forEach(m -> broken("the face lacks " + m));
        for (Field f : MoveUp.class.getDeclaredFields()) {
            if (!Modifier.isPrivate(f.getModifiers()) && !f.getName().equals("NONE")) {
                broken("not of the face: " + f);
            }
        }
        Constructor<?>[] made = MoveUp.class.getDeclaredConstructors();
        if (made.length != 1 || !Modifier.isPublic(made[0].getModifiers()) || made[0].getParameterCount() != 0) {
            broken("another constructor");
        }
        Class<?>[] inside = MoveUp.class.getDeclaredClasses();
        if (inside.length + 1 > 12) {
            broken("1 + " + inside.length + " classes");
        }
        for (Class<?> c : inside) {
            one(c, names);
        }
        one(MoveUp.class, new TreeSet<>());
    }

    private static void one(Class<?> c, Set<String> names) {
        if (c.isAnonymousClass() || c != MoveUp.class && !Modifier.isStatic(c.getModifiers())) {
            broken("not static: " + c);
        }
        long fields = Arrays.stream(c.getDeclaredFields()).filter(f -> !Modifier.isStatic(f.getModifiers())).count();
        if (fields > 20) {
            broken(fields + " fields in " + c);
        }
        for (Field f : c.getDeclaredFields()) {
            if (Modifier.isStatic(f.getModifiers()) && !Modifier.isFinal(f.getModifiers())) {
                broken("static state: " + f);
            }
        }
        for (Method m : c.getDeclaredMethods()) {
            if (names.contains(m.getName())) {
                broken("a public method's name: " + m);
            }
            if (m.getParameterCount() > 7) {
                broken("too many parameters: " + m);
            }
        }
    }

    private static void words(String code) {
        String[] never = {"\\bthrow\\b", "\\btry\\b", "\\bcatch\\b", "\\bsynchronized\\b", "\\bassert\\b", "->", "::",
            "\\bObject\\b", "\"\\s*\\+", "\\+\\s*\"", "Exact\\b", "\\bThread\\b", "\\bRandom\\b", "currentTimeMillis",
            "nanoTime", "\\bprintln\\b", "String\\s*\\[", "\\bstatic\\s*\\{", "\\bnew\\s+\\w+\\([^)]*\\)\\s*\\{", "[^\\x00-\\x7f]"};
        for (String word : never) {
            if (Pattern.compile(word).matcher(code).find()) {
                broken("not of the language: " + word);
            }
        }
        Matcher m = Pattern.compile("import\\s+([\\w.]+)").matcher(code);
        while (m.find()) {
            if (!List.of("java.util.Arrays", "java.util.ArrayList", "java.util.List").contains(m.group(1))) {
                broken("import of " + m.group(1));
            }
        }
    }

    private static void methods(String source) {
        String[] lines = source.split("\n");
        for (int i = 0; i < lines.length; i++) {
            Matcher m = Pattern.compile("^( {4}| {8})(\\w.*\\(.*|\\w.*\\))\\{?$").matcher(lines[i]);
            if (!m.matches() || !lines[i].endsWith("{")) {
                continue;
            }
            int end = i;
            while (!lines[end].equals(m.group(1) + "}")) {
                end++;
            }
            if (end - i + 1 > 60) {
                broken("a method of " + (end - i + 1) + " lines: " + lines[i]);
            }
        }
        for (String line : lines) {
            if (line.length() > 130) {
                broken("a long line: " + line);
            }
        }
    }
}
