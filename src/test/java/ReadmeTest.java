import java.io.IOException;
import java.nio.charset.StandardCharsets;
import java.nio.file.Files;
import java.nio.file.Path;
import java.util.ArrayList;
import java.util.List;
import java.util.regex.Matcher;
import java.util.regex.Pattern;

/** README.md has every method of the document's face with its promise, word for word, and its example answers so. */
public final class ReadmeTest {
    private static final int PROMISES = 28;
    private static int wrong = 0;

    public static void main(String[] args) throws IOException {
        String readme = Files.readString(Path.of("README.md"), StandardCharsets.UTF_8);
        String document = Files.readString(Path.of("../shared/DOC.md"), StandardCharsets.UTF_8);
        promises(readme, document);
        example(readme);
        System.out.println(wrong == 0 ? "README.md tells it as it is" : "README.md: " + wrong + " are missing or wrong");
        if (wrong != 0) {
            System.exit(1);
        }
    }

    private static void miss(String what) {
        wrong++;
        System.out.println(what);
    }

    private static void promises(String readme, String document) {
        Matcher m = Pattern.compile("## Promise (\\d+): .*\\n\\n(`.*?`): (.*)\\n").matcher(document);
        int count = 0;
        while (m.find()) {
            count++;
            String row = "| " + m.group(2) + " | " + m.group(1) + " | " + m.group(3) + " |\n";
            if (!readme.contains(row)) {
                miss("README.md has not: " + row);
            }
        }
        if (count != PROMISES) {
            miss("the document has " + count + " promises that this test can read");
        }
    }

    // ---- the example: README.md has these very lines; each comment that begins with a number tells the answer

    private static int tell(MoveUp x, int k, String text) {
        x.end(0);
        for (int i = 0; i < text.length(); i += 20) {
            int[] n = new int[5];
            for (int j = 0; j < 20; j++) {
                n[j / 4] = n[j / 4] << 8 | (i + j < text.length() ? text.charAt(i + j) : ' ');
            }
            x.feed(n[0], n[1], n[2], n[3], n[4]);
        }
        x.end(text.length());
        return x.text(k);
    }

    private static int[] answers() {
        MoveUp x = new MoveUp();
        x.bench(20);
        int ann = x.person(4, 1, 1, 0, 1);                  // 0
        int eve = x.person(8, 1, 0, 0, 1);                  // 1
        int ben = x.person(5, 0, 0, 0, 1);                  // 2
        int lines = tell(x, 0, "sit 1 when at=8;");         // 1
        int annSits = x.come(ann);                          // 8
        int eveStands = x.come(eve);                        // -1
        int cost = x.room(eve, 0);                          // 1
        int annWould = x.room(eve, 10 + ann);               // 9
        int eveSits = x.beg(eve);                           // 0
        int benSits = x.come(ben);                          // 15
        int day = tell(x, 2, "go 0 at 1; come 0 at 5;");    // 2
        int done = x.hours(3);                              // 1
        int warm = x.at(9, 1);                              // 0
        int most = x.fill(2, 0, 1);                         // 3
        int never = x.stands(0);                            // 0
        boolean back = x.undo();
        int hour = x.look(3);                               // 2
        int fault = tell(x, 1, "cost moved/0;");            // -1
        int which = x.fault(0);                             // 2
        int place = x.fault(1);                             // 11
        return new int[] {ann, eve, ben, lines, annSits, eveStands, cost, annWould, eveSits, benSits, day, done, warm,
            most, never, hour, fault, which, place, back ? 1 : 0};
    }

    private static void example(String readme) throws IOException {
        String source = Files.readString(Path.of("src/test/java/ReadmeTest.java"), StandardCharsets.UTF_8);
        String block = source.substring(source.indexOf("        MoveUp x = new MoveUp();"), source.indexOf("        return new int[] {ann"));
        String helper = source.substring(source.indexOf("    private static int tell("), source.indexOf("    private static int[] answers("));
        if (!readme.contains(block.replaceAll("(?m)^ {8}", ""))) {
            miss("README.md has not the example of ReadmeTest");
        }
        if (!readme.contains(helper.strip().replaceAll("(?m)^ {4}", "").replace("private static", "static"))) {
            miss("README.md has not tell() of ReadmeTest");
        }
        List<Integer> due = new ArrayList<>();
        Matcher m = Pattern.compile("; +// (-?\\d+)\\n").matcher(block);
        while (m.find()) {
            due.add(Integer.parseInt(m.group(1)));
        }
        int[] answers = answers();
        for (int i = 0; i < answers.length; i++) {
            int want = i < due.size() ? due.get(i) : 1;
            if (answers[i] != want) {
                miss("answer " + i + " of the example is " + answers[i] + ", not " + want);
            }
        }
        if (due.size() != answers.length - 1) {
            miss("the example tells " + due.size() + " answers");
        }
    }
}
