import java.io.IOException;
import java.nio.charset.StandardCharsets;
import java.nio.file.Files;
import java.nio.file.Path;
import java.util.Set;
import java.util.TreeSet;

/** What the tests of edges share: a sentence of the document with its promise, and the answers that are due by it. */
abstract class Edges {
    static final int NONE = -1;
    static final int NOTHING = NONE - 1;
    static final int NO_PLACE = NONE - 999999;
    static final int FAR = Integer.MAX_VALUE;
    static final int LOW = Integer.MIN_VALUE;

    static int sentences = 0;
    static int answers = 0;
    static int broken = 0;
    static final Set<Integer> promises = new TreeSet<>();
    private static String document;
    private static boolean holds;
    private static boolean quiet;

    /** The sentences must be the document's own words, but for its line ends. */
    static void readDocument(Path file) throws IOException {
        document = Files.readString(file, StandardCharsets.UTF_8).replaceAll("\\s+", " ");
    }

    static void beQuiet() {
        quiet = true;
    }

    static void edge(int promise, String sentence, Runnable test) {
        sentences++;
        promises.add(promise);
        holds = true;
        if (document != null && !document.contains(sentence)) {
            miss("is not a sentence of the document");
        }
        try {
            test.run();
        } catch (RuntimeException e) {
            miss("the machine threw: " + e);
        }
        if (!holds) {
            broken++;
            say("promise " + promise + ": \"" + sentence + "\" is broken");
        }
    }

    private static void miss(String what) {
        holds = false;
        say("  " + what);
    }

    private static void say(String what) {
        if (!quiet) {
            System.out.println(what);
        }
    }

    static void due(String call, long got, long want) {
        answers++;
        if (got != want) {
            miss(call + " answered " + got + ", due is " + want);
        }
    }

    static void due(String call, boolean got, boolean want) {
        due(call, got ? 1 : 0, want ? 1 : 0);
    }

    /** A bench with people so WIDE, who keep nothing, have nothing, are of no GROUP and move. */
    static MoveUp people(int length, int... wide) {
        MoveUp x = new MoveUp();
        x.bench(length);
        for (int w : wide) {
            x.person(w, 0, 0, 0, 1);
        }
        return x;
    }

    /** Has one come to just that inch; the LAW OF SITTING is empty then. */
    static void seat(MoveUp x, int person, int inch) {
        Texts.tell(x, 0, "sit 1 when at=" + inch + ";");
        due("the inch of " + person, x.come(person), inch);
        Texts.tell(x, 0, "");
    }

    /** So many HOURS go by, however many they are. */
    static void pass(MoveUp x, int hours) {
        for (int left = hours; left > 0; left -= 60) {
            x.hours(Math.min(left, 60));
        }
    }

    /** A call, or some, that are refused or only thought: all that can be seen stays as it was. */
    static void leavesAll(MoveUp x, Runnable calls) {
        String was = all(x);
        calls.run();
        String is = all(x);
        answers++;
        if (!was.equals(is)) {
            miss("what should stay has changed: " + was + " is now " + is);
        }
    }

    /** For a short bench with few people: the calls are counted, 512 are the most for one object. */
    private static String all(MoveUp x) {
        int length = x.look(0);
        int people = x.look(1);
        int lines = Math.min(x.look(4), 4);
        StringBuilder s = new StringBuilder("look");
        for (int i = 0; i <= 10; i++) {
            s.append(' ').append(x.look(i));
        }
        s.append(", fault ").append(x.fault(0)).append(' ').append(x.fault(1)).append(", of");
        for (int p = 0; p < people; p++) {
            for (int i = 0; i <= 6; i++) {
                s.append(' ').append(x.of(p, i));
            }
            s.append(" room ").append(x.room(p, 0)).append(", tells");
            for (int i = 0; i < length; i += 2) {
                s.append(' ').append(x.tells(p, i));
            }
        }
        s.append(", at");
        for (int inch = 0; inch < length; inch++) {
            s.append(' ').append(x.at(inch, 0)).append(' ').append(x.at(inch, 1)).append(' ').append(x.at(inch, 2));
        }
        s.append(", book");
        for (int i = 0; i < lines; i++) {
            for (int what = 0; what < 4; what++) {
                s.append(' ').append(x.book(i, what));
            }
        }
        return s.append(", stands ").append(x.stands(0)).append(' ').append(x.stands(1)).toString();
    }

    /** A little of everything: two of three SIT, rests, LAWS, A DAY, an HOUR gone by, a FAULT; three can be undone. */
    static MoveUp busy() {
        MoveUp x = new MoveUp();
        x.bench(9);
        x.person(2, 1, 1, 0, 1);
        x.person(2, 0, 0, 3, 1);
        x.person(6, 0, 0, 0, 1);
        x.rest(5, true);
        Texts.tell(x, 2, "go 1 at 1; come 1 at 7; come 2 at 8;");
        Texts.tell(x, 0, "sit at;");
        Texts.tell(x, 1, "cost 3 when moved=1;");
        x.come(1);
        x.come(0);
        x.hours(1);
        Texts.tell(x, 0, "sit 1 when (;");
        return x;
    }
}
