/** Each promise by calls whose answers were worked out by hand from the document. */
public final class PromiseTest {
    private static final int NONE = -1;
    private static final int FAR = Integer.MAX_VALUE;
    private static final int LOW = Integer.MIN_VALUE;
    private static int wrong = 0;
    private static int count = 0;

    public static void main(String[] args) {
        newObject();
        bench();
        rest();
        person();
        set();
        come();
        comeByLaw();
        go();
        beg();
        tape();
        text();
        values();
        faults();
        hours();
        ofAndAt();
        tells();
        book();
        room();
        roomOfSeveral();
        rise();
        fill();
        bestRest();
        block();
        orders();
        gives();
        stands();
        undo();
        undoForgets();
        image();
        look();
        System.out.println(wrong == 0 ? count + " answers are as due" : wrong + " answers are not as due");
        if (wrong != 0) {
            System.exit(1);
        }
    }

    private static void due(int promise, String call, long got, long want) {
        count++;
        if (got != want) {
            wrong++;
            System.out.println("promise " + promise + ": " + call + " answered " + got + ", due is " + want);
        }
    }

    private static void due(int promise, String call, boolean got, boolean want) {
        due(promise, call, got ? 1 : 0, want ? 1 : 0);
    }

    /** A bench with people so WIDE, who keep nothing, have nothing, are of no GROUP and move. */
    private static MoveUp people(int length, int... wide) {
        MoveUp x = new MoveUp();
        x.bench(length);
        for (int w : wide) {
            x.person(w, 0, 0, 0, 1);
        }
        return x;
    }

    /** Has one come to just that inch; the LAW OF SITTING is empty then. */
    private static void seat(MoveUp x, int person, int inch) {
        Texts.tell(x, 0, "sit 1 when at=" + inch + ";");
        due(6, "the inch of " + person, x.come(person), inch);
        Texts.tell(x, 0, "");
    }

    private static void newObject() {
        MoveUp x = new MoveUp();
        due(1, "NONE", MoveUp.NONE, -1);
        due(1, "LENGTH", x.look(0), 40);
        for (int what = 1; what <= 10; what++) {
            due(1, "look(" + what + ")", x.look(what), what == 9 ? 40 : 0);
        }
        due(1, "at(39, 0)", x.at(39, 0), NONE);
        due(1, "at(39, 1)", x.at(39, 1), NONE);
        due(1, "at(40, 0)", x.at(40, 0), NONE - 1);
        due(1, "fault(0)", x.fault(0), 0);
        due(1, "fault(1)", x.fault(1), NONE);
        due(1, "undo()", x.undo(), false);
        due(1, "image(false)", x.image(false), false);
        due(1, "end(1)", x.end(1), false);
    }

    private static void bench() {
        MoveUp x = new MoveUp();
        for (int length : new int[] {0, -1, 61, FAR, LOW}) {
            due(2, "bench(" + length + ")", x.bench(length), false);
        }
        x.person(2, 0, 0, 0, 1);
        x.come(0);
        due(2, "bench(61)", x.bench(61), false);
        due(2, "nothing is done", x.look(2), 1);
        due(2, "what can be undone stays", x.look(8), 1);
        x.rest(5, true);
        Texts.tell(x, 0, "sit at;");
        Texts.tell(x, 1, "cost 1;");
        Texts.tell(x, 2, "come 0 at 7;");
        x.hours(2);
        x.image(true);
        Texts.tell(x, 0, "sit ?;");
        x.feed(0, 0, 0, 0, 0);
        due(2, "bench(1)", x.bench(1), true);
        due(2, "LENGTH", x.look(0), 1);
        for (int what = 1; what <= 10; what++) {
            due(2, "anew look(" + what + ")", x.look(what), what == 9 ? 1 : 0);
        }
        due(2, "not WARM", x.at(0, 1), NONE);
        due(2, "the TAPE stays", x.feed(0, 0, 0, 0, 0), 40);
        due(2, "fault(0) stays", x.fault(0), 1);
        due(2, "fault(1) stays", x.fault(1), 4);
        due(2, "bench(60)", x.bench(60), true);
        due(2, "at(59, 0)", x.at(59, 0), NONE);
        due(2, "THE IMAGE stays", x.image(false), true);
        due(2, "LENGTH of THE IMAGE", x.look(0), 40);
        due(2, "its lines", x.look(5) + x.look(6) + x.look(7), 3);
    }

    private static void rest() {
        MoveUp x = people(10, 3);
        for (int inch : new int[] {0, 10, -1, FAR, LOW}) {
            due(3, "rest(" + inch + ", true)", x.rest(inch, true), false);
            due(3, "rest(" + inch + ", false)", x.rest(inch, false), false);
        }
        due(3, "rest(1, true)", x.rest(1, true), true);
        due(3, "rest(9, true)", x.rest(9, true), true);
        due(3, "rest(9, true) once more", x.rest(9, true), true);
        due(3, "ARM RESTS", x.look(10), 2);
        due(3, "over a rest", x.tells(0, 0), NONE - 999999);
        due(3, "right of it", x.tells(0, 1), 0);
        due(3, "up to the other", x.tells(0, 6), 0);
        due(3, "over the other", x.tells(0, 7), NONE - 999999);
        due(3, "rest(5, false), there is none", x.rest(5, false), true);
        due(3, "rest(1, false)", x.rest(1, false), true);
        due(3, "come(0)", x.come(0), 0);
        due(3, "rest(1, true) over him", x.rest(1, true), false);
        due(3, "rest(2, true) over him", x.rest(2, true), false);
        due(3, "rest(3, true) beside him", x.rest(3, true), true);
        due(3, "no bench's end", x.look(10), 2);
        x = new MoveUp();
        x.person(2, 0, 3, 0, 1);
        x.come(0);
        due(3, "under the BAG", x.rest(3, true), true);
        due(3, "behind WIDE", x.rest(2, true), true);
        due(3, "under WIDE", x.rest(1, true), false);
        due(3, "a bag over a rest", people(5, 1).rest(1, true), true);
    }

    private static void person() {
        MoveUp x = new MoveUp();
        int[][] can = {{1, 0, 0, 0, 0}, {20, 15, 10, 9, 1}};
        int[][] cannot = {{0, 0, 0, 0, 0}, {21, 0, 0, 0, 0}, {1, -1, 0, 0, 0}, {1, 16, 0, 0, 0}, {1, 0, -1, 0, 0},
            {1, 0, 11, 0, 0}, {1, 0, 0, -1, 0}, {1, 0, 0, 10, 0}, {1, 0, 0, 0, -1}, {1, 0, 0, 0, 2}, {LOW, 0, 0, 0, 0},
            {1, 0, FAR, 0, 0}};
        for (int[] p : cannot) {
            due(4, "one who can't be", x.person(p[0], p[1], p[2], p[3], p[4]), NONE);
        }
        for (int i = 0; i < 10; i++) {
            int[] p = can[i % 2];
            due(4, "number", x.person(p[0], p[1], p[2], p[3], p[4]), i);
        }
        for (int what = 0; what < 5; what++) {
            due(4, "of(8, " + what + ")", x.of(8, what), can[0][what]);
            due(4, "of(9, " + what + ")", x.of(9, what), can[1][what]);
        }
        due(4, "stands", x.of(9, 5), NONE);
        due(4, "the eleventh", x.person(1, 0, 0, 0, 0), NONE);
        due(4, "PEOPLE", x.look(1), 10);
    }

    private static void set() {
        MoveUp x = people(20, 3, 3);
        int[] most = {20, 15, 10, 9, 1};
        for (int what = 0; what < 5; what++) {
            int least = what == 0 ? 1 : 0;
            due(5, "least " + what, x.set(what, 0, least), true);
            due(5, "told", x.of(0, what), least);
            due(5, "too small " + what, x.set(what, 0, least - 1), false);
            due(5, "most " + what, x.set(what, 0, most[what]), true);
            due(5, "too great " + what, x.set(what, 0, most[what] + 1), false);
            due(5, "told", x.of(0, what), most[what]);
            due(5, "none such", x.set(what, 2, 1), false);
            due(5, "none such", x.set(what, -1, 1), false);
        }
        due(5, "another what", x.set(5, 0, 1), false);
        due(5, "another what", x.set(-1, 0, 1), false);
        x.come(1);
        for (int what = 0; what < 4; what++) {
            due(5, "of one who SITS " + what, x.set(what, 1, 2), false);
        }
        due(5, "WIDE stays", x.of(1, 0), 3);
        due(5, "MOVES of one who SITS", x.set(4, 1, 0), true);
        due(5, "MOVES", x.of(1, 4), 0);
        due(5, "MOVES 2", x.set(4, 1, 2), false);
    }

    private static void come() {
        MoveUp x = new MoveUp();
        x.bench(20);
        x.person(4, 1, 0, 0, 1);
        x.person(3, 2, 1, 0, 1);
        x.person(3, 0, 0, 2, 1);
        x.person(2, 9, 0, 2, 1);
        x.person(5, 0, 0, 0, 1);
        due(6, "the least inch", x.come(0), 0);
        due(6, "by the greater KEEP", x.come(1), 6);
        due(6, "his KEEP and the BAG", x.come(2), 12);
        due(6, "one GROUP", x.come(3), 15);
        due(6, "no place", x.come(4), NONE);
        due(6, "he stands", x.of(4, 5), NONE);
        due(6, "SITS already", x.come(3), NONE);
        due(6, "none such", x.come(5), NONE);
        due(6, "none such", x.come(-1), NONE);
        due(6, "lines of THE BOOK", x.look(4), 5);
        x.go(1);
        due(6, "between", x.come(1), 6);
        MoveUp y = people(10, 4);
        y.rest(2, true);
        y.rest(5, true);
        due(6, "not over a rest", y.come(0), 5);
        y = new MoveUp();
        y.bench(5);
        y.person(2, 0, 4, 0, 1);
        due(6, "a BAG beyond the end", y.come(0), NONE);
        y.set(2, 0, 3);
        y.rest(3, true);
        due(6, "a BAG on a rest", y.come(0), 0);
        // GROUP 0 is none
        y = new MoveUp();
        y.person(2, 3, 0, 0, 1);
        y.person(2, 3, 0, 0, 1);
        y.come(0);
        due(6, "of no GROUP both", y.come(1), 5);
    }

    private static void comeByLaw() {
        MoveUp x = people(10, 2, 2, 2, 2);
        due(6, "text", Texts.tell(x, 0, "sit 3 when at>4 and at<7; sit 0-at;"), 2);
        due(6, "of several the least", x.come(0), 5);
        due(6, "the most", x.come(1), 0);
        due(6, "right of 0", x.come(2), 2);
        due(6, "the last", x.come(3), 7);
        x = people(10, 1, 1);
        Texts.tell(x, 0, "sit 0-5 when at=0; sit 0-3 when at=4; sit 0-4;");
        due(6, "negative ones too", x.come(0), 4);
        Texts.tell(x, 0, "sit 1 when at=20;");
        due(6, "no line: 0", x.come(1), 0);
    }

    private static void go() {
        MoveUp x = people(10, 3, 3);
        due(7, "stands", x.go(0), false);
        due(7, "none such", x.go(2), false);
        due(7, "none such", x.go(-1), false);
        x.come(0);
        x.come(1);
        due(7, "go(0)", x.go(0), true);
        due(7, "stands aside", x.of(0, 5), NONE);
        due(7, "the other SITS", x.of(1, 5), 3);
        due(7, "free", x.look(9), 7);
        due(7, "once more", x.go(0), false);
        due(7, "comes again", x.come(0), 0);
    }

    private static void beg() {
        MoveUp x = people(6, 2, 4, 7, 1);
        seat(x, 0, 1);
        due(8, "no place as it is", x.tells(1, 3), NONE - 999999);
        due(8, "no ROOM", x.beg(2), NONE);
        due(8, "moves up", x.beg(1), 2);
        due(8, "is moved", x.of(0, 5), 0);
        due(8, "SITS already", x.beg(1), NONE);
        due(8, "full", x.beg(3), NONE);
        due(8, "none such", x.beg(4), NONE);
        due(8, "none such", x.beg(-1), NONE);
        due(8, "lines", x.look(4), 4);
        due(8, "begged and stands", x.book(1, 2), 4);
        due(8, "begged and sits", x.book(2, 2), 3);
        due(8, "the inch", x.book(2, 3), 2);
        due(8, "stands", x.book(3, 3), NONE);
        x = people(6, 2, 4);
        seat(x, 0, 1);
        x.set(4, 0, 0);
        due(8, "who does not MOVE", x.beg(1), NONE);
        due(8, "stays", x.of(0, 5), 1);
    }

    private static void tape() {
        MoveUp x = new MoveUp();
        due(9, "twenty", x.feed(LOW, -1, 0, 1, FAR), 20);
        due(10, "end(21)", x.end(21), false);
        due(10, "end(-1)", x.end(-1), false);
        due(10, "end(LOW)", x.end(LOW), false);
        due(10, "end(20)", x.end(20), true);
        due(10, "end(1)", x.end(1), true);
        due(10, "end(2)", x.end(2), false);
        due(9, "behind one", x.feed(0, 0, 0, 0, 0), 21);
        due(10, "end(0)", x.end(0), true);
        for (int i = 1; i <= 20; i++) {
            due(9, "feed " + i, x.feed(i, i, i, i, i), 20 * i);
        }
        due(9, "more than 400", x.feed(1, 1, 1, 1, 1), NONE);
        due(9, "400 stay", x.end(400), true);
        due(10, "end(381)", x.end(381), true);
        due(9, "381 and twenty", x.feed(1, 1, 1, 1, 1), NONE);
        due(10, "end(380)", x.end(380), true);
        due(9, "380 and twenty", x.feed(1, 1, 1, 1, 1), 400);
        // the highest byte first: s i t 1 ;
        x = people(4, 1);
        x.feed('s' << 24 | 'i' << 16 | 't' << 8 | ' ', '7' << 24 | ';' << 16 | 0xFFFF, -1, -1, -1);
        x.end(6);
        due(9, "the order", x.text(0), 1);
        due(9, "the value", x.tells(0, 0), 7);
    }

    private static void text() {
        MoveUp x = people(10, 2);
        due(11, "an empty one", Texts.tell(x, 0, ""), 0);
        due(11, "blanks alone", Texts.tell(x, 0, " \n \n"), 0);
        due(11, "two lines", Texts.tell(x, 0, "sit 1 when at=3;sit at*2;"), 2);
        due(11, "the TAPE is empty", x.feed(0, 0, 0, 0, 0), 20);
        due(11, "a FAULT", x.text(0), NONE);
        due(12, "of it", x.fault(0), 1);
        due(11, "the TAPE is empty then too", x.end(1), false);
        due(11, "the TEXT stays", x.look(5), 2);
        due(11, "the first line", x.tells(0, 3), 1);
        due(11, "the second one", x.tells(0, 5), 10);
        for (int k : new int[] {3, -1, FAR, LOW}) {
            Texts.tell(x, 0, "sit");
            due(11, "no such TEXT", Texts.tell(x, k, "sit 1;"), NONE);
            due(12, "fault(0) then", x.fault(0), 0);
            due(12, "fault(1) then", x.fault(1), NONE);
            due(11, "the TAPE is empty", x.feed(0, 0, 0, 0, 0), 20);
        }
        due(11, "no blanks needed", Texts.tell(x, 0, "sit1when(at=1)or not(2<1and 3>at);sit wide/2;"), 2);
        due(11, "OF MOVING", Texts.tell(x, 1, "cost moved*moved when moved>2;cost wide;"), 2);
        due(11, "A DAY", Texts.tell(x, 2, "come 0 at 3; go 0 at 999; beg 0000 at 0004;"), 3);
        due(11, "sixteen lines", Texts.tell(x, 0, "sit at;".repeat(16)), 16);
        due(11, "sixteen lines of MOVING", Texts.tell(x, 1, "cost 1;".repeat(16)), 16);
        due(11, "24 lines of A DAY", Texts.tell(x, 2, "go 0 at 7;".repeat(24)), 24);
        due(11, "400 bytes", Texts.tell(x, 0, "sit1" + "+1".repeat(197) + " ;"), 1);
        due(11, "their sum", x.tells(0, 0), 198);
        due(11, "eight open", Texts.tell(x, 0, "sit 1 when ((not((not((1=1))))));"), 1);
        due(11, "eight open, and eight once more", Texts.tell(x, 0,
            "sit 1 when not not not not not not not not 1=1 and ((((((((2=2))))))));"), 1);
    }

    private static int value(String sum) {
        MoveUp x = people(10, 2);
        due(11, "text of " + sum, Texts.tell(x, 0, "sit " + sum + ";sit 77;"), 2);
        return x.tells(0, 3);
    }

    private static void values() {
        due(11, "precedence", value("1+2*3-8/2"), 3);
        due(11, "from the left", value("10-3-2"), 5);
        due(11, "parts from the left", value("7/2*2"), 6);
        due(11, "wraps", value("9999*9999*9999"), 9999 * 9999 * 9999);
        due(11, "goes towards 0", value("9999*9999*22/1000"), -2095407);
        due(11, "leading noughts", value("0042"), 42);
        due(11, "less", value("1 when 2<3"), 1);
        due(11, "less, not", value("1 when 3<3"), 77);
        due(11, "equal", value("1 when 3=3"), 1);
        due(11, "more", value("1 when 4>3"), 1);
        due(11, "more, not", value("1 when 3>3"), 77);
        due(11, "and ahead of or", value("1 when 1=1 or 1=1 and 1=2"), 1);
        due(11, "and ahead of or", value("1 when 1=2 and 1=1 or 1=1"), 1);
        due(11, "parts of B", value("1 when (1=1 or 1=1) and 1=2"), 77);
        due(11, "not takes one C", value("1 when not 1=2 and 1=2"), 77);
        due(11, "not of a part", value("1 when not (1=2 and 1=2)"), 1);
        due(11, "sums on both sides", value("1 when 1+1=4-2"), 1);
        // the words of SITTING: 0 and 2 SIT, 1 asks between them
        MoveUp x = new MoveUp();
        x.bench(20);
        x.person(3, 1, 1, 4, 1);
        x.person(2, 2, 1, 4, 1);
        x.person(2, 0, 0, 4, 1);
        x.person(2, 0, 0, 5, 1);
        seat(x, 0, 1);
        seat(x, 2, 15);
        x.hours(2);
        x.go(0);
        x.hours(9);
        seat(x, 0, 0);
        String[] words = {"wide", "keep", "bag", "group", "hour", "at", "left", "right", "warm", "friends", "sitting"};
        int[] at9 = {2, 2, 1, 4, 11, 9, 5, 3, 0, 2, 2};
        int[] at17 = {2, 2, 1, 4, 11, 17, 0, 0, 0, 1, 2};
        for (int i = 0; i < words.length; i++) {
            Texts.tell(x, 0, "sit " + words[i] + ";");
            due(16, words[i] + " at 9", x.tells(1, 9), at9[i]);
            due(16, words[i] + " at 17", x.tells(1, 17), at17[i]);
        }
        // WARM by HOUR 1 at 1..3 and 10 at 15, 16: 9 HOURS at most
        x.go(0);
        x.go(2);
        Texts.tell(x, 0, "sit warm;");
        due(16, "10 HOURS are too many", x.tells(1, 2), 0);
        due(16, "1 HOUR", x.tells(1, 15), 2);
        due(16, "one inch of it", x.tells(1, 14), 1);
        x.undo();
        x.undo();
        x = people(6, 2);
        x.come(0);
        x.hours(1);
        x.go(0);
        Texts.tell(x, 0, "sit warm;");
        x.hours(8);
        due(16, "9 HOURS are not", x.tells(0, 0), 2);
        x.hours(1);
        due(16, "10 are", x.tells(0, 0), 0);
        due(16, "no friends in GROUP 0", friendsOfNone(), 0);
    }

    private static int friendsOfNone() {
        MoveUp x = people(10, 2, 2);
        x.come(0);
        Texts.tell(x, 0, "sit friends;");
        return x.tells(1, 2);
    }

    private static void fault(int k, String text, int which, int place) {
        MoveUp x = people(10, 2, 2);
        due(11, "text(" + k + ") of " + text, Texts.tell(x, k, text), NONE);
        due(12, "the FAULT of " + text, x.fault(0), which);
        due(12, "its place in " + text, x.fault(1), place);
        due(12, "another what", x.fault(2), NONE);
        due(12, "another what", x.fault(-1), NONE);
        due(11, "the TEXT stays empty", x.look(5 + k), 0);
    }

    private static void faults() {
        fault(0, ";", 1, 0);
        fault(0, "cost 1;", 1, 0);
        fault(1, "sit 1;", 1, 0);
        fault(0, "sits 1;", 1, 0);
        fault(0, " Sit 1;", 1, 1);
        fault(0, "sitz 1;", 1, 0);
        fault(0, "sitA 1;", 1, 0);
        fault(0, "sitZ 1;", 1, 0);
        fault(0, "sit@1;", 1, 3);
        fault(0, "sit`1;", 1, 3);
        fault(0, "sit[1;", 1, 3);
        fault(0, ";".repeat(400), 1, 0);
        fault(0, "sit 1" + "+1".repeat(197) + "+", 1, 400);
        fault(0, "sit", 1, 3);
        fault(0, "sit 1  ", 1, 7);
        fault(0, "sit ;", 1, 4);
        fault(0, "sit 1 2;", 1, 6);
        fault(0, "sit 12345;", 1, 4);
        fault(0, "sit 1+;", 1, 6);
        fault(0, "sit -1;", 1, 4);
        fault(0, "sit (1);", 1, 4);
        fault(0, "sit 1/at;", 1, 6);
        fault(0, "sit 1/0;", 2, 6);
        fault(0, "sit 1/ 000;", 2, 7);
        fault(0, "sit 1/0 ?", 2, 6);
        fault(0, "sit ? 1/0;", 1, 4);
        fault(0, "sit moved;", 1, 4);
        for (String word : new String[] {"at", "left", "right", "warm", "friends", "sitting"}) {
            fault(1, "cost " + word + ";", 1, 5);
        }
        fault(0, "sit 1 when;", 1, 10);
        fault(0, "sit 1 when 1;", 1, 12);
        fault(0, "sit 1 when 1<2<3;", 1, 14);
        fault(0, "sit 1 when (1<2;", 1, 15);
        fault(0, "sit 1 when 1<2);", 1, 14);
        fault(0, "sit 1 when (1)<2;", 1, 13);
        fault(0, "sit 1 when 1<2 and;", 1, 18);
        fault(0, "sit 1 when 1<2 when 1<2;", 1, 15);
        fault(0, "sit 1;\tsit 2;", 1, 6);
        fault(0, "sit 1;\nsit 2,", 1, 12);
        fault(0, "sit 1;" + (char) 233, 1, 6);
        fault(0, "sit 1." , 1, 5);
        fault(0, "sit 1;".repeat(17), 3, 96);
        fault(0, "sit 1;".repeat(16) + " sit ?", 3, 97);
        fault(0, "sit 1;".repeat(16) + " ?", 1, 97);
        fault(1, "cost 1;".repeat(17), 3, 112);
        fault(0, "sit 1 when (((((((((1=1)))))))));", 3, 19);
        fault(0, "sit 1 when not not not not not not not not not 1=1;", 3, 43);
        fault(0, "sit 1 when not(not(not(not((1=1;", 3, 27);
        fault(2, "come 2 at 1;", 2, 5);
        fault(2, "come 9999 at 1;", 2, 5);
        fault(2, "come at 1;", 1, 5);
        fault(2, "come 1 1;", 1, 7);
        fault(2, "come 1 at ;", 1, 10);
        fault(2, "come 1 at 1000;", 2, 10);
        fault(2, "come 1 at 10000;", 1, 10);
        fault(2, "come 1 at 1", 1, 11);
        fault(2, "sit 1 at 1;", 1, 0);
        fault(2, "go 1 at 1;".repeat(25), 3, 240);
    }

    private static void hours() {
        MoveUp x = people(8, 3, 3, 3, 9);
        for (int n : new int[] {0, 61, -1, FAR, LOW}) {
            due(13, "hours(" + n + ")", x.hours(n), NONE);
        }
        Texts.tell(x, 2, "come 1 at 1; go 1 at 0; come 0 at 1; come 0 at 1; come 2 at 1; go 0 at 2; beg 2 at 2;"
            + "go 0 at 2; come 3 at 2; beg 3 at 2; go 1 at 61;");
        due(13, "HOUR 0: 1 can't go", x.hours(1), 0);
        due(13, "HOUR 1: three come, one of them stands", x.hours(1), 3);
        due(13, "line by line", x.of(1, 5), 0);
        due(13, "and then", x.of(0, 5), 3);
        due(13, "stands", x.of(2, 5), NONE);
        due(13, "HOUR", x.look(3), 2);
        due(13, "WARM", x.at(5, 1), 1);
        due(13, "not WARM", x.at(6, 1), NONE);
        due(13, "HOUR 2: one goes, one begs, two stand", x.hours(1), 4);
        due(13, "begged", x.of(2, 5), 3);
        due(13, "the book's lines", x.look(4), 7);
        due(13, "60 at once", x.hours(60), 1);
        due(13, "HOUR", x.look(3), 63);
        due(13, "WARM by 62", x.at(3, 1), 62);
        due(13, "WARM by 60", x.at(0, 1), 60);
        for (int i = 0; i < 15; i++) {
            x.hours(60);
        }
        due(13, "HOUR", x.look(3), 963);
        due(13, "above 999", x.hours(37), NONE);
        due(13, "nothing is done", x.look(3), 963);
        due(13, "up to 999", x.hours(36), 0);
        due(13, "HOUR", x.look(3), 999);
        due(13, "above 999", x.hours(1), NONE);
        x = new MoveUp();
        x.person(2, 0, 3, 0, 1);
        x.come(0);
        x.hours(1);
        due(13, "WIDE is WARM", x.at(1, 1), 0);
        due(13, "the BAG is not", x.at(2, 1), NONE);
    }

    private static void ofAndAt() {
        MoveUp x = new MoveUp();
        x.bench(20);
        x.person(3, 1, 2, 4, 1);
        x.person(2, 0, 0, 0, 0);
        x.person(1, 0, 0, 0, 0);
        seat(x, 0, 10);
        seat(x, 1, 2);
        int[] of = {3, 1, 2, 4, 1, 10, 1};
        for (int what = 0; what < 7; what++) {
            due(14, "of(0, " + what + ")", x.of(0, what), of[what]);
            due(14, "none such", x.of(3, what), NONE - 1);
            due(14, "none such", x.of(-1, what), NONE - 1);
        }
        due(14, "his place from the left", x.of(1, 6), 0);
        due(14, "stands", x.of(2, 5), NONE);
        due(14, "stands", x.of(2, 6), NONE);
        due(14, "another what", x.of(0, 7), NONE - 1);
        due(14, "another what", x.of(0, -1), NONE - 1);
        due(14, "far off", x.of(FAR, LOW), NONE - 1);
        int[] who = {NONE, NONE, 1, 1, NONE, NONE, NONE, NONE, NONE, NONE, 0, 0, 0, 0, 0, NONE, NONE, NONE, NONE, NONE};
        x.rest(4, true);
        x.hours(3);
        for (int i = 0; i < 20; i++) {
            due(15, "at(" + i + ", 0)", x.at(i, 0), who[i]);
            due(15, "at(" + i + ", 1)", x.at(i, 1), i == 2 || i == 3 || i >= 10 && i < 13 ? 2 : NONE);
            due(15, "at(" + i + ", 2)", x.at(i, 2), i == 4 ? 1 : 0);
        }
        for (int what = -1; what < 4; what++) {
            due(15, "none such", x.at(20, what), NONE - 1);
            due(15, "none such", x.at(-1, what), NONE - 1);
        }
        due(15, "another what", x.at(3, 3), NONE - 1);
        due(15, "another what", x.at(3, -1), NONE - 1);
    }

    private static void tells() {
        MoveUp x = new MoveUp();
        x.bench(12);
        x.person(2, 1, 0, 0, 1);
        x.person(2, 0, 1, 0, 1);
        Texts.tell(x, 0, "sit at+100;");
        due(16, "far right", x.tells(1, 9), 109);
        due(16, "his BAG beyond the end", x.tells(1, 10), NONE - 999999);
        seat(x, 0, 4);
        Texts.tell(x, 0, "sit at+100;");
        int[] can = {100, NONE - 999999, NONE - 999999, NONE - 999999, NONE - 999999, NONE - 999999, NONE - 999999, 107};
        for (int i = 0; i < can.length; i++) {
            due(16, "tells(1, " + i + ")", x.tells(1, i), can[i]);
        }
        due(16, "he SITS", x.tells(0, 4), NONE - 999999);
        due(16, "he SITS", x.tells(0, 9), NONE - 999999);
        due(16, "none such", x.tells(2, 0), NONE - 999999);
        due(16, "none such", x.tells(-1, 0), NONE - 999999);
        for (int inch : new int[] {-1, 12, FAR, LOW, FAR - 1}) {
            due(16, "no inch", x.tells(1, inch), NONE - 999999);
        }
    }

    private static void book() {
        MoveUp x = people(4, 3, 3);
        due(17, "none such", x.book(0, 0), NONE - 1);
        x.hours(5);
        seat(x, 0, 1);
        x.come(1);
        x.beg(1);
        x.go(0);
        x.beg(1);
        int[][] lines = {{5, 0, 0, 1}, {5, 1, 1, NONE}, {5, 1, 4, NONE}, {5, 0, 2, 1}, {5, 1, 3, 0}};
        for (int i = 0; i < lines.length; i++) {
            for (int what = 0; what < 4; what++) {
                due(17, "book(" + i + ", " + what + ")", x.book(i, what), lines[i][what]);
            }
            due(17, "another what", x.book(i, 4), NONE - 1);
            due(17, "another what", x.book(i, -1), NONE - 1);
        }
        due(17, "none such", x.book(5, 0), NONE - 1);
        due(17, "none such", x.book(-1, 0), NONE - 1);
        for (int i = 0; i < 144; i++) {
            x.come(0);
        }
        due(17, "149 lines", x.look(4), 149);
        x.go(1);
        due(17, "150 lines", x.look(4), 150);
        due(17, "the last", x.book(149, 2), 2);
        x.come(0);
        due(17, "no more", x.look(4), 150);
        due(17, "the last stays", x.book(149, 2), 2);
        due(17, "none such", x.book(150, 0), NONE - 1);
        due(17, "he SITS none the less", x.of(0, 5), 0);
    }

    private static void room() {
        MoveUp x = people(6, 2, 4, 7);
        due(18, "nobody SITS: the least inch", x.room(1, 2), 0);
        due(18, "nobody SITS: cost", x.room(1, 0), 0);
        seat(x, 0, 1);
        due(18, "cost", x.room(1, 0), 1);
        due(18, "moved", x.room(1, 1), 1);
        due(18, "his inch", x.room(1, 2), 2);
        due(18, "the other's", x.room(1, 10), 0);
        due(18, "who does not SIT", x.room(1, 11), NONE);
        due(18, "who does not SIT", x.room(1, 12), NONE);
        due(18, "no such one", x.room(1, 13), NONE);
        due(18, "another what", x.room(1, 3), NONE);
        due(18, "another what", x.room(1, 9), NONE);
        due(18, "another what", x.room(1, -1), NONE);
        due(18, "another what", x.room(1, FAR), NONE);
        due(18, "without ROOM", x.room(2, 0), NONE);
        due(18, "he SITS", x.room(0, 0), NONE);
        due(18, "none such", x.room(3, 0), NONE);
        due(18, "none such", x.room(-1, 0), NONE);
        due(18, "nothing of it stays", x.of(0, 5), 1);
        Texts.tell(x, 1, "cost 2 when moved=3; cost 3 when moved=1;");
        due(18, "the other gap is cheaper", x.room(1, 0), 2);
        due(18, "the other gap", x.room(1, 2), 0);
        due(18, "moved there", x.room(1, 10), 4);
        Texts.tell(x, 1, "cost moved*9999;");
        due(18, "held to 999", x.room(1, 0), 999);
        Texts.tell(x, 1, "cost moved-40;");
        due(18, "held to 0", x.room(1, 0), 0);
        Texts.tell(x, 1, "cost 5 when moved>1;");
        due(18, "no line: moved", x.room(1, 0), 1);
        x.set(4, 0, 0);
        due(18, "who does not MOVE", x.room(1, 0), NONE);
        x.set(4, 0, 1);
        x.rest(1, true);
        due(18, "over a rest", x.room(1, 2), NONE);
        x.rest(1, false);
        x.go(0);
        x.rest(2, true);
        due(18, "right of the rest", x.room(1, 2), 2);
        // what MOVING may ask: all his
        x = new MoveUp();
        x.bench(7);
        x.hours(8);
        x.person(2, 3, 1, 4, 1);
        x.person(4, 0, 0, 4, 1);
        seat(x, 0, 1);
        Texts.tell(x, 1, "cost wide+10*keep+100*bag+group*150+hour*20+moved;");
        due(18, "all his", x.room(1, 0), 2 + 30 + 100 + 600 + 160 + 1);
    }

    private static void roomOfSeveral() {
        MoveUp x = people(5, 1, 3);
        seat(x, 0, 2);
        due(18, "the leftmost gap", x.room(1, 2), 0);
        due(18, "then the lesser inch", x.room(1, 10), 3);
        Texts.tell(x, 1, "cost 1;");
        due(18, "the lesser inch of as cheap ones", x.room(1, 10), 3);
        x = people(8, 1, 1, 2, 3);
        seat(x, 0, 1);
        seat(x, 1, 2);
        seat(x, 2, 5);
        Texts.tell(x, 1, "cost 2 when wide=1; cost 4;");
        due(18, "cost", x.room(3, 0), 4);
        due(18, "the fewest moved", x.room(3, 1), 1);
        due(18, "his inch", x.room(3, 2), 3);
        due(18, "stays", x.room(3, 10), 1);
        due(18, "stays", x.room(3, 11), 2);
        due(18, "is moved", x.room(3, 12), 6);
        x = people(20, 1, 1, 1, 1, 1, 1, 1, 1, 1, 11);
        for (int i = 0; i < 9; i++) {
            seat(x, i, 2 * i + 1);
        }
        // nothing is free then: the i-th goes to i (by i + 1) or to i + 11 (by 10 - i), the first five to the left
        due(18, "all ten", x.room(9, 0), 1 + 2 + 3 + 4 + 5 + 5 + 4 + 3 + 2);
        due(18, "all nine are moved", x.room(9, 1), 9);
        due(18, "behind the fifth", x.room(9, 2), 5);
        // friends need not keep off, others do
        x = new MoveUp();
        x.bench(6);
        x.person(2, 2, 0, 1, 1);
        x.person(2, 2, 0, 1, 1);
        x.person(2, 0, 0, 0, 1);
        seat(x, 0, 0);
        due(18, "beside a friend", x.room(1, 2), 2);
        due(18, "two inches off", x.room(2, 2), 4);
        due(18, "no cost", x.room(2, 0), 0);
    }

    private static void rise() {
        MoveUp x = people(6, 2, 2, 2, 3, 6, 7);
        x.come(0);
        x.come(1);
        x.come(2);
        due(19, "too wide, whoever rises", x.rise(3, 0), NONE);
        x.set(0, 3, 2);
        due(19, "as wide as they", x.rise(3, 0), 0);
        due(19, "the cost", x.rise(3, 1), 0);
        due(19, "with nobody", x.rise(4, 0), NONE);
        due(19, "with nobody", x.rise(4, 1), NONE);
        due(19, "another what", x.rise(3, 2), NONE);
        due(19, "another what", x.rise(3, -1), NONE);
        due(19, "he SITS", x.rise(0, 0), NONE);
        due(19, "none such", x.rise(6, 0), NONE);
        due(19, "none such", x.rise(-1, 0), NONE);
        due(19, "nothing stays", x.look(2), 3);
        x.set(0, 3, 3);
        x.go(1);
        due(19, "the cheapest", x.rise(3, 0), 0);
        due(19, "no cost", x.rise(3, 1), 0);
        x = people(7, 1, 1, 3, 5);
        seat(x, 0, 1);
        seat(x, 1, 3);
        seat(x, 2, 4);
        // without 2: 0 to 0 and 1 to 1 (1 + 2); without 0 or 1 three and five are too wide
        due(19, "without the wide one", x.rise(3, 0), 2);
        due(19, "what it costs", x.rise(3, 1), 3);
        x = people(7, 1, 1, 1, 4);
        seat(x, 0, 1);
        seat(x, 1, 3);
        seat(x, 2, 5);
        // one of those who stay is moved by one inch, whoever rises
        due(19, "of those of one cost", x.rise(3, 0), 0);
        due(19, "its cost", x.rise(3, 1), 1);
        MoveUp y = people(6, 2);
        due(19, "nobody SITS", y.rise(0, 0), NONE);
    }

    private static void fill() {
        MoveUp x = people(4, 1, 2);
        due(20, "fewest", x.fill(2, 0, 0), 1);
        due(20, "most", x.fill(2, 0, 1), 2);
        due(20, "mean of 2, 1, 2", x.fill(2, 0, 2), 1666);
        due(20, "the LAW's", x.fill(2, 0, 3), 2);
        Texts.tell(x, 0, "sit 1 when at=1;");
        due(20, "the LAW's by a law", x.fill(2, 0, 3), 1);
        Texts.tell(x, 0, "sit 1 when sitting=0 and at=1; sit wide*0-keep-bag-group;");
        due(20, "asks who SIT", x.fill(1, 0, 3), 4);
        Texts.tell(x, 0, "");
        due(20, "too wide", x.fill(5, 0, 0) + x.fill(5, 0, 1) + x.fill(5, 0, 2) + x.fill(5, 0, 3), 0);
        for (int what = 0; what < 4; what++) {
            due(20, "w 0", x.fill(0, 0, what), NONE);
            due(20, "w 21", x.fill(21, 0, what), NONE);
            due(20, "k -1", x.fill(1, -1, what), NONE);
            due(20, "k 16", x.fill(1, 16, what), NONE);
        }
        due(20, "another what", x.fill(1, 0, 4), NONE);
        due(20, "another what", x.fill(1, 0, -1), NONE);
        x.rest(2, true);
        due(20, "by a rest", x.fill(2, 0, 0), 2);
        due(20, "by a rest, w 3", x.fill(3, 0, 1), 0);
        x.rest(2, false);
        // 5 inches, w 1, k 1: 3 from 0, 2 from 1, 3 or 2 from 2, 2, 3
        x.bench(5);
        due(20, "fewest with k", x.fill(1, 1, 0), 2);
        due(20, "most with k", x.fill(1, 1, 1), 3);
        // of 3 inches (2 + 1 + 2) / 3 = 1.666; 0: 2.666, 1: 1 + 1 (of 2: 1), 2: 3, 3 as 1, 4 as 0
        due(20, "mean with k", x.fill(1, 1, 2), (2666 + 2000 + 3000 + 2000 + 2666) / 5);
        x = new MoveUp();
        x.bench(20);
        x.person(2, 3, 1, 4, 1);
        seat(x, 0, 8);
        // 8 - 3 = 5 inches on the left, from 11 + 3 on 6 on the right
        due(20, "both stretches, fewest", x.fill(2, 1, 0), 1 + 1);
        due(20, "both stretches, most", x.fill(2, 1, 1), 2 + 2);
        due(20, "the greater KEEP is k", x.fill(2, 4, 1), 1 + 1);
        // left of w 2, k 1 in 5: 0 and 3: 2, 1 and 2: 1: mean 1500; right in 6: 0: 2, 1: 2, 2: 1, 3: 2, 4: 2: 1800
        due(20, "means are added", x.fill(2, 1, 2), 1500 + 1800);
        due(20, "the LAW's", x.fill(2, 1, 3), 4);
        due(20, "nothing stays", x.look(2), 1);
    }

    private static void bestRest() {
        MoveUp x = people(4, 2);
        due(21, "in the middle", x.bestRest(2, 0), 2);
        due(21, "none is better", x.bestRest(4, 0), 0);
        due(21, "none is better", x.bestRest(1, 0), 0);
        due(21, "w 0", x.bestRest(0, 0), NONE);
        due(21, "w 21", x.bestRest(21, 0), NONE);
        due(21, "k -1", x.bestRest(2, -1), NONE);
        due(21, "k 16", x.bestRest(2, 16), NONE);
        x.come(0);
        x.rest(3, true);
        due(21, "on an empty BENCH without others", x.bestRest(2, 0), 2);
        x.bench(6);
        // fewest 2 without one; 3 only if all must sit at 0, 2, 4: no one rest does it
        due(21, "none does it", x.bestRest(2, 0), 0);
        x.bench(5);
        // w 3: 1 always
        due(21, "one only", x.bestRest(3, 0), 0);
        x.bench(7);
        // w 3, k 0: one at 2 leaves no more: a rest at 3 or 4 leaves two places, 3 is the least
        due(21, "of several the least", x.bestRest(3, 0), 3);
        x.bench(1);
        due(21, "no inch for one", x.bestRest(1, 0), 0);
    }

    private static void block() {
        MoveUp x = people(7, 1, 8, 2);
        // most of w 3: 2 free ones; 1 at 2: 0..1 none, 3..6 one; 1 at 1: one; of several the least: at 1?
        due(22, "the least most", x.block(0, 3, 0), 1);
        due(22, "w 7", x.block(0, 7, 0), 0);
        due(22, "without a place", x.block(1, 3, 0), NONE);
        due(22, "w 0", x.block(0, 0, 0), NONE);
        due(22, "w 21", x.block(0, 21, 0), NONE);
        due(22, "k -1", x.block(0, 3, -1), NONE);
        due(22, "k 16", x.block(0, 3, 16), NONE);
        due(22, "none such", x.block(3, 3, 0), NONE);
        due(22, "none such", x.block(-1, 3, 0), NONE);
        due(22, "nothing stays", x.look(2), 0);
        seat(x, 0, 0);
        due(22, "he SITS", x.block(0, 3, 0), NONE);
        // 6 inches are left: 2 at 1 or 2 leave 4 or 1 + 3; 3 leaves 2 + 2: none
        due(22, "in the middle", x.block(2, 3, 0), 3);
        MoveUp y = people(5, 2);
        due(22, "between", y.block(0, 3, 0), 1);
        y.rest(2, true);
        due(22, "not over the rest", y.block(0, 3, 0), 2);
        y = new MoveUp();
        y.bench(7);
        y.person(1, 2, 0, 0, 1);
        // KEEP 2 of his: at 1 the first free inch is 4: one; at 2 it is 5: none
        due(22, "by his KEEP", y.block(0, 3, 0), 2);
    }

    private static void orders() {
        MoveUp x = people(9, 3, 3, 3, 1);
        due(23, "nobody SITS", x.orders(0), 1);
        due(23, "nobody SITS", x.orders(10), NONE);
        x.come(1);
        x.come(0);
        x.come(2);
        due(23, "one behind the other", x.orders(0), 1);
        due(23, "first", x.orders(10), 1);
        due(23, "second", x.orders(11), 0);
        due(23, "third", x.orders(12), 2);
        due(23, "no fourth", x.orders(13), NONE);
        for (int what : new int[] {-1, 1, 9, FAR, LOW}) {
            due(23, "another what", x.orders(what), NONE);
        }
        Texts.tell(x, 0, "sit 1 when at=0 and sitting=2; sit 1 when at=6 and sitting<2; sit 1 when at=3 and sitting=0;");
        // 2 first, or 0 first when nobody SITS (of 3 and 6 the least: 0 at 3); then 2 at 6; 1 as the third at 0
        due(23, "by the law", x.orders(0), 1);
        due(23, "first by it", x.orders(10), 0);
        due(23, "second by it", x.orders(11), 2);
        Texts.tell(x, 0, "sit 0-1;sit at;");
        due(23, "leftmost again", x.orders(0), 1);
        Texts.tell(x, 0, "sit at;");
        due(23, "rightmost", x.orders(10), 2);
        Texts.tell(x, 0, "sit 1 when at=4;");
        due(23, "in none", x.orders(0), 0);
        due(23, "without one", x.orders(10), NONE);
        // each has his own place: any order
        MoveUp y = people(20, 1, 2, 3, 4, 1, 2, 3, 4, 1);
        Texts.tell(y, 0, "sit 9 when at=wide*4;");
        for (int i = 3; i >= 0; i--) {
            y.come(i);
        }
        due(23, "any order", y.orders(0), 24);
        due(23, "the first of them", y.orders(10), 0);
        due(23, "and its last", y.orders(13), 3);
        y = people(20, 1, 1, 1, 1, 1, 1, 1, 1, 1);
        for (int i = 0; i < 8; i++) {
            y.come(7 - i);
        }
        due(23, "eight", y.orders(0), 1);
        due(23, "eight, the first", y.orders(10), 7);
        due(23, "eight, the last", y.orders(17), 0);
        y.come(8);
        due(23, "nine", y.orders(0), NONE);
        due(23, "nine", y.orders(10), NONE);
    }

    private static void gives() {
        MoveUp x = people(10, 2, 3, 2, 3);
        due(24, "nobody SITS", x.gives(3, 0), NONE);
        for (int i = 0; i < 4; i++) {
            x.come(i);
        }
        due(24, "the wider one, the least number", x.gives(3, 0), 1);
        due(24, "as many: the least number", x.gives(2, 0), 0);
        due(24, "none gives that much", x.gives(5, 0), 0);
        due(24, "w 0", x.gives(0, 0), NONE);
        due(24, "w 21", x.gives(21, 0), NONE);
        due(24, "k -1", x.gives(2, -1), NONE);
        due(24, "k 16", x.gives(2, 16), NONE);
        x.go(1);
        due(24, "beside the free ones", x.gives(5, 0), 0);
        due(24, "k counts beside the neighbours", x.gives(3, 1), 0);
        due(24, "nothing stays", x.look(2), 3);
    }

    private static void stands() {
        MoveUp x = people(5, 3, 3, 2);
        due(25, "no DAY", x.stands(0), 0);
        due(25, "no DAY", x.stands(1), NONE);
        due(25, "another what", x.stands(2), NONE);
        due(25, "another what", x.stands(-1), NONE);
        Texts.tell(x, 2, "come 0 at 3; come 1 at 4; beg 1 at 5; go 0 at 6; come 1 at 7; beg 0 at 999; come 2 at 998;");
        due(25, "two at 4 and 5, one at 999", x.stands(0), 3);
        due(25, "the first HOUR", x.stands(1), 4);
        due(25, "nothing stays", x.look(3) + x.look(2) + x.look(4) + x.look(8), 0);
        due(25, "nothing is WARM", x.at(0, 1), NONE);
        x.hours(5);
        due(25, "from 5 on", x.stands(0), 2);
        due(25, "from 5 on", x.stands(1), 5);
        x.hours(3);
        due(25, "from 8 on", x.stands(1), 999);
        due(25, "he SITS", x.of(1, 5), 0);
        for (int i = 0; i < 16; i++) {
            x.hours(60);
        }
        x.hours(31);
        due(25, "HOUR", x.look(3), 999);
        due(25, "the 1000th HOUR counts", x.stands(0), 1);
        // the law asks what is WARM: 0 sat till HOUR 19, 1 comes to it in time, 2 too late
        x = people(6, 2, 2, 3);
        Texts.tell(x, 0, "sit 2 when warm=2; sit 1 when at=1 and sitting=0; sit 1 when at=2 and hour>20;");
        Texts.tell(x, 2, "come 0 at 0; go 0 at 20; come 1 at 28; come 2 at 28; go 1 at 29; come 1 at 50; come 2 at 50;");
        // at 28 1 SITS at 1 (WARM by 19): 2 SITS at 3; at 50 1 has gone: at 1 again
        due(25, "no one stands", x.stands(0), 0);
        Texts.tell(x, 2, "come 0 at 0; go 0 at 20; come 1 at 29; come 2 at 29;");
        due(25, "WARM by 19 no more: 1 at 1 all the same", x.stands(0), 0);
        Texts.tell(x, 0, "sit 2 when warm=2; sit 1 when at=2 and hour<9;");
        Texts.tell(x, 2, "come 0 at 0; go 0 at 20; come 1 at 28; come 2 at 28;");
        due(25, "2 WARM inches and 3", x.stands(0), 1);
        due(25, "at 28", x.stands(1), 28);
        Texts.tell(x, 2, "come 0 at 0; go 0 at 20; come 1 at 29; come 2 at 29;");
        due(25, "WARM by 19 no more at 29", x.stands(0), 0);
    }

    private static void undo() {
        MoveUp x = people(6, 2, 4, 2);
        seat(x, 0, 1);
        x.beg(1);
        x.hours(2);
        due(26, "four", x.look(8), 4);
        due(26, "an HOUR", x.undo(), true);
        due(26, "HOUR", x.look(3), 1);
        due(26, "WARM by 0", x.at(0, 1), 0);
        due(26, "an HOUR", x.undo(), true);
        due(26, "not WARM", x.at(0, 1), NONE);
        due(26, "the begging", x.undo(), true);
        due(26, "moved back", x.of(0, 5), 1);
        due(26, "stands", x.of(1, 5), NONE);
        due(26, "its line goes", x.look(4), 1);
        due(26, "the coming", x.undo(), true);
        due(26, "stands", x.of(0, 5), NONE);
        due(26, "no lines", x.look(4), 0);
        due(26, "nothing", x.undo(), false);
        x.come(0);
        x.go(0);
        x.undo();
        due(26, "SITS again", x.of(0, 5), 0);
        x.undo();
        for (int i = 0; i < 7; i++) {
            x.come(1);
            x.go(1);
        }
        due(26, "six are kept", x.look(8), 6);
        for (int i = 0; i < 6; i++) {
            due(26, "undo " + i, x.undo(), true);
        }
        due(26, "the seventh", x.undo(), false);
        due(26, "lines", x.look(4), 8);
        // an ACT after which he stands, and an HOUR with its lines as one
        x = people(3, 3, 3);
        x.come(0);
        x.come(1);
        due(26, "standing is an ACT", x.look(8), 2);
        x.undo();
        due(26, "its line goes", x.look(4), 1);
        x.come(0);
        x.go(1);
        x.hours(0);
        due(26, "what isn't done is none", x.look(8), 1);
        Texts.tell(x, 2, "go 0 at 0; come 1 at 0; come 0 at 0;");
        x.hours(1);
        due(26, "one HOUR", x.look(8), 1);
        x.undo();
        due(26, "all of it", x.of(0, 5), 0);
        due(26, "all of it", x.of(1, 5), NONE);
        due(26, "its lines", x.look(4), 1);
        due(26, "A DAY stays", x.look(7), 3);
    }

    private static void undoForgets() {
        MoveUp x = people(6, 2, 2);
        x.come(0);
        Texts.tell(x, 0, "sit at;");
        Texts.tell(x, 1, "cost 1;");
        x.image(true);
        Texts.tell(x, 2, "come 7 at 1;");
        x.rest(1, true);
        x.rest(6, false);
        x.set(0, 0, 1);
        x.person(0, 0, 0, 0, 0);
        x.bench(0);
        x.text(7);
        x.room(1, 0);
        x.orders(0);
        x.stands(0);
        due(26, "LAWS, THE IMAGE and what can't be done do not forget", x.look(8), 1);
        due(26, "undo()", x.undo(), true);
        due(26, "the LAW stays", x.look(5), 1);
        for (int i = 0; i < 7; i++) {
            x.come(1);
            due(26, "one", x.look(8), 1);
            switch (i) {
                case 0: x.rest(2, true); break;
                case 1: x.set(1, 0, 3); break;
                case 2: x.set(4, 1, 1); break;
                case 3: x.person(1, 0, 0, 0, 1); break;
                case 4: Texts.tell(x, 2, ""); break;
                case 5: x.image(false); break;
                default: x.bench(6);
            }
            due(26, "forgotten " + i, x.look(8), 0);
            due(26, "nothing", x.undo(), false);
            x.go(1);
            x.set(4, 1, 1);
        }
    }

    private static void image() {
        MoveUp x = people(12, 2, 3);
        due(27, "there is none", x.image(false), false);
        x.rest(6, true);
        Texts.tell(x, 0, "sit at;");
        Texts.tell(x, 1, "cost 1;cost 2;");
        Texts.tell(x, 2, "go 0 at 5;");
        x.come(0);
        x.hours(1);
        due(27, "taken", x.image(true), true);
        due(27, "what can be undone stays", x.look(8), 2);
        for (int i = 0; i < 2; i++) {
            x.bench(30);
            x.person(5, 5, 5, 5, 0);
            x.come(0);
            x.hours(3);
            Texts.tell(x, 0, "?");
            x.feed(0, 0, 0, 0, 0);
            due(27, "gone back", x.image(false), true);
            int[] look = {12, 2, 1, 1, 1, 1, 2, 1, 0, 10, 1};
            for (int what = 0; what < look.length; what++) {
                due(27, "look(" + what + ")", x.look(what), look[what]);
            }
            due(27, "SITS", x.of(0, 5), 10);
            due(27, "WIDE", x.of(0, 0), 2);
            due(27, "WARM", x.at(10, 1), 0);
            due(27, "not WARM", x.at(0, 1), NONE);
            due(27, "the rest", x.at(6, 2), 1);
            due(27, "over the rest", x.tells(1, 5), NONE - 999999);
            due(27, "by the LAW", x.tells(1, 7), 7);
            due(27, "THE BOOK", x.book(0, 3), 10);
            due(27, "fault() stays", x.fault(0), 1);
            due(27, "the TAPE stays", x.end(20), true);
            due(27, "nothing to undo", x.undo(), false);
        }
        due(27, "A DAY goes on", x.hours(5), 1);
        x.image(true);
        due(27, "taken anew", x.image(false), true);
        due(27, "the newer one", x.look(3), 6);
    }

    private static void look() {
        MoveUp x = new MoveUp();
        x.bench(30);
        x.person(2, 4, 1, 0, 1);
        x.person(3, 0, 0, 0, 1);
        x.person(3, 0, 0, 0, 1);
        x.rest(9, true);
        x.rest(20, true);
        Texts.tell(x, 0, "sit 1;sit 2;sit 3;");
        Texts.tell(x, 1, "cost 1;cost 2;");
        Texts.tell(x, 2, "go 0 at 0;go 0 at 9;go 0 at 1;go 0 at 1;");
        Texts.tell(x, 0, "sit at;sit 1;sit 2;");
        x.come(1);
        x.come(0);
        x.hours(1);
        int[] look = {30, 3, 1, 1, 3, 3, 2, 4, 3, 27, 2};
        for (int what = 0; what < look.length; what++) {
            due(28, "look(" + what + ")", x.look(what), look[what]);
        }
        x.undo();
        due(28, "the leftmost", x.look(20), 0);
        due(28, "the next", x.look(21), 1);
        due(28, "no more", x.look(22), NONE);
        due(28, "free without BAG and WIDE", x.look(9), 24);
        for (int what : new int[] {-1, 11, 19, 30, FAR, LOW}) {
            due(28, "another what", x.look(what), NONE);
        }
    }
}
