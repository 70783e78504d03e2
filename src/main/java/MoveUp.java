import java.util.Arrays;

/**
 * A bench by inches on which people sit down, are moved up and go, as ../shared/DOC.md promises.
 * Words in capitals are the document's own.
 *
 * <p>All rows are made with the object and used again: no call makes anything new.
 */
public final class MoveUp {

    public static final int NONE = -1;

    private static final int NOTHING = NONE - 1;
    private static final int NO_PLACE = NONE - 999999;
    private static final int INCHES = 60;
    private static final int FIRST_LENGTH = 40;
    private static final int PERSONS = 10;
    private static final int ALL = (1 << PERSONS) - 1;
    private static final int HOURS = 1000;
    private static final int HOURS_AT_ONCE = 60;
    private static final int ORDERED = 8;
    private static final int BOOK_LINES = 150;
    private static final int LAW_LINES = 16;
    private static final int DAY_LINES = 24;
    private static final int TAPE_BYTES = 400;

    // what is told of a PERSON, in the order of set() and of()
    private static final int WIDE = 0;
    private static final int KEEP = 1;
    private static final int BAG = 2;
    private static final int GROUP = 3;
    private static final int MOVES = 4;
    private static final int[] LEAST = {1, 0, 0, 0, 0};
    private static final int[] MOST = {20, 15, 10, 9, 1};

    // what a line of THE BOOK tells
    private static final int CAME = 0;
    private static final int CAME_AND_STANDS = 1;
    private static final int WENT = 2;
    private static final int BEGGED = 3;
    private static final int BEGGED_AND_STANDS = 4;

    // the TEXTS
    private static final int SITTING = 0;
    private static final int MOVING = 1;
    private static final int DAY = 2;

    private final Bench bench = new Bench();
    private final Bench image = new Bench();
    private final Past past = new Past();
    private final Reader reader = new Reader();
    private final Row row = new Row();
    private final Seats seats = new Seats(bench, row);
    private final Room rooms = new Room(bench, row);
    private final Filling filling = new Filling(bench, row);
    private final Arrivals arrivals = new Arrivals(bench, row, seats);
    private final Acts acts = new Acts(bench, row, seats, rooms);
    private boolean imageTaken;

    public MoveUp() {
    }

    public boolean bench(int length) {
        if (length < 1 || length > INCHES) {
            return false;
        }
        bench.clear(length);
        past.forget();
        return true;
    }

    public boolean rest(int inch, boolean there) {
        if (inch < 1 || inch >= bench.length || there && bench.isSatOver(inch)) {
            return false;
        }
        bench.putRest(inch, there);
        past.forget();
        return true;
    }

    public int person(int wide, int keep, int bag, int group, int moves) {
        if (!allowed(WIDE, wide) || !allowed(KEEP, keep) || !allowed(BAG, bag)
                || !allowed(GROUP, group) || !allowed(MOVES, moves) || bench.people >= PERSONS) {
            return NONE;
        }
        int number = bench.people;
        bench.people++;
        bench.told[WIDE][number] = wide;
        bench.told[KEEP][number] = keep;
        bench.told[BAG][number] = bag;
        bench.told[GROUP][number] = group;
        bench.told[MOVES][number] = moves;
        bench.seat[number] = NONE;
        past.forget();
        return number;
    }

    public boolean set(int what, int person, int v) {
        if (!allowed(what, v) || !bench.isPerson(person) || what != MOVES && bench.isSeated(person)) {
            return false;
        }
        bench.told[what][person] = v;
        past.forget();
        return true;
    }

    public int come(int person) {
        if (!bench.isAside(person)) {
            return NONE;
        }
        past.keepNow(bench);
        return acts.comes(person);
    }

    public boolean go(int person) {
        if (!bench.isSeated(person)) {
            return false;
        }
        past.keepNow(bench);
        acts.goes(person);
        return true;
    }

    public int beg(int person) {
        if (!bench.isAside(person)) {
            return NONE;
        }
        past.keepNow(bench);
        return acts.begs(person);
    }

    public int feed(int a, int b, int c, int d, int e) {
        if (reader.size + 20 > TAPE_BYTES) {
            return NONE;
        }
        reader.append(a);
        reader.append(b);
        reader.append(c);
        reader.append(d);
        reader.append(e);
        return reader.size;
    }

    public boolean end(int n) {
        if (n < 0 || n > reader.size) {
            return false;
        }
        reader.size = n;
        return true;
    }

    public int text(int k) {
        boolean read = reader.reads(k, bench.people);
        if (!read) {
            return NONE;
        }
        if (k == DAY) {
            bench.day.copyFrom(reader.day);
            past.forget();
            return bench.day.lines;
        }
        Law law = k == SITTING ? bench.sitting : bench.moving;
        law.copyFrom(reader.law);
        return law.lines;
    }

    public int fault(int what) {
        if (what == 0) {
            return reader.fault;
        }
        return what == 1 ? reader.faultPlace : NONE;
    }

    public int hours(int n) {
        if (n < 1 || n > HOURS_AT_ONCE || bench.hour + n >= HOURS) {
            return NONE;
        }
        int done = 0;
        for (int i = 0; i < n; i++) {
            past.keepNow(bench);
            done += acts.passHour();
        }
        return done;
    }

    public int of(int person, int what) {
        if (!bench.isPerson(person) || what < 0 || what > 6) {
            return NOTHING;
        }
        if (what <= MOVES) {
            return bench.told[what][person];
        }
        return what == 5 ? bench.seat[person] : bench.rank(person);
    }

    public int at(int inch, int what) {
        if (inch < 0 || inch >= bench.length || what < 0 || what > 2) {
            return NOTHING;
        }
        if (what == 0) {
            return bench.whoIsAt(inch);
        }
        return what == 1 ? bench.warm[inch] : bench.rest[inch];
    }

    public int tells(int person, int inch) {
        if (!bench.isAside(person) || inch < 0 || inch >= bench.length) {
            return NO_PLACE;
        }
        row.gather(bench, ALL);
        row.askFor(bench, person);
        return seats.isPlace(inch) ? seats.valueAt(inch) : NO_PLACE;
    }

    public int book(int i, int what) {
        if (i < 0 || i >= bench.lines || what < 0 || what > 3) {
            return NOTHING;
        }
        return bench.book[what][i];
    }

    public int room(int person, int what) {
        boolean known = what >= 0 && what <= 2 || what >= 10 && bench.isSeated(what - 10);
        if (!known || !bench.isAside(person)) {
            return NONE;
        }
        rooms.reckonCosts();
        if (!rooms.find(person, ALL)) {
            return NONE;
        }
        if (what == 0) {
            return rooms.cost();
        }
        if (what == 1) {
            return rooms.moved();
        }
        return what == 2 ? rooms.inch[person] : rooms.inch[what - 10];
    }

    public int rise(int person, int what) {
        if (what < 0 || what > 1 || !bench.isAside(person)) {
            return NONE;
        }
        rooms.reckonCosts();
        int who = NONE;
        int least = NONE;
        for (int p = 0; p < bench.people; p++) {
            if (bench.isSeated(p) && rooms.find(person, ALL & ~(1 << p))
                    && (who == NONE || rooms.cost() < least)) {
                who = p;
                least = rooms.cost();
            }
        }
        return what == 0 ? who : least;
    }

    public int fill(int w, int k, int what) {
        if (!allowed(WIDE, w) || !allowed(KEEP, k) || what < 0 || what > 3) {
            return NONE;
        }
        row.gather(bench, ALL);
        if (what == 3) {
            return seats.fillByLaw(w, k);
        }
        filling.ofAlike(w, k);
        return filling.total(what);
    }

    public int bestRest(int w, int k) {
        if (!allowed(WIDE, w) || !allowed(KEEP, k)) {
            return NONE;
        }
        filling.ofAlike(w, k);
        return filling.bestInchForRest();
    }

    public int block(int person, int w, int k) {
        if (!allowed(WIDE, w) || !allowed(KEEP, k) || !bench.isAside(person)) {
            return NONE;
        }
        filling.ofAlike(w, k);
        int best = NONE;
        int least = NONE;
        for (int inch = 0; inch < bench.length; inch++) {
            row.gather(bench, ALL);
            row.askFor(bench, person);
            if (!seats.isPlace(inch)) {
                continue;
            }
            row.seatAsker(inch);
            int most = filling.total(Filling.MOST_OF_ALL);
            if (best == NONE || most < least) {
                best = inch;
                least = most;
            }
        }
        return best;
    }

    public int orders(int what) {
        if (what != 0 && what < 10 || !arrivals.gatherAll()) {
            return NONE;
        }
        arrivals.findNextOnes();
        arrivals.countWays();
        return what == 0 ? arrivals.howMany() : arrivals.inFirst(what - 10);
    }

    public int gives(int w, int k) {
        if (!allowed(WIDE, w) || !allowed(KEEP, k)) {
            return NONE;
        }
        filling.ofAlike(w, k);
        int best = NONE;
        int greatest = NONE;
        for (int p = 0; p < bench.people; p++) {
            if (!bench.isSeated(p)) {
                continue;
            }
            row.gather(bench, ALL & ~(1 << p));
            int most = filling.total(Filling.MOST_OF_ALL);
            if (best == NONE || most > greatest) {
                best = p;
                greatest = most;
            }
        }
        return best;
    }

    public int stands(int what) {
        if (what < 0 || what > 1) {
            return NONE;
        }
        past.keepThought(bench);
        acts.countNone();
        int next = bench.day.nextHour(bench.hour);
        for (int i = 0; i < DAY_LINES && next < HOURS; i++) {
            acts.skipTo(next);
            acts.passHour();
            next = bench.day.nextHour(bench.hour);
        }
        past.endThought(bench);
        return what == 0 ? acts.stood : acts.firstStood;
    }

    public boolean undo() {
        return past.goBack(bench);
    }

    public boolean image(boolean taken) {
        if (taken) {
            image.copyFrom(bench);
            imageTaken = true;
            return true;
        }
        if (!imageTaken) {
            return false;
        }
        bench.copyFrom(image);
        past.forget();
        return true;
    }

    public int look(int what) {
        if (what >= 20) {
            return bench.whoIsNth(what - 20);
        }
        switch (what) {
            case 0: return bench.length;
            case 1: return bench.people;
            case 2: return bench.seated();
            case 3: return bench.hour;
            case 4: return bench.lines;
            case 5: return bench.sitting.lines;
            case 6: return bench.moving.lines;
            case 7: return bench.day.lines;
            case 8: return past.count;
            case 9: return bench.free();
            case 10: return bench.rests();
            default: return NONE;
        }
    }

    private static boolean allowed(int what, int v) {
        return what >= 0 && what < MOST.length && v >= LEAST[what] && v <= MOST[what];
    }

    /** THE BENCH with all that is and was told, but the TAPE and what can be undone. */
    private static final class Bench {

        int length;
        int people;
        int hour;
        int lines;
        final int[] rest = new int[INCHES];
        final int[] reach = new int[INCHES];
        final int[] warm = new int[INCHES];
        final int[][] told = new int[MOST.length][PERSONS];
        final int[] seat = new int[PERSONS];
        final int[][] book = new int[4][BOOK_LINES];
        final Law sitting = new Law();
        final Law moving = new Law();
        final Day day = new Day();

        Bench() {
            clear(FIRST_LENGTH);
        }

        void clear(int inches) {
            length = Math.min(Math.max(inches, 1), INCHES);
            people = 0;
            hour = 0;
            lines = 0;
            Arrays.fill(rest, 0);
            Arrays.fill(warm, NONE);
            Arrays.fill(seat, NONE);
            sitting.clear();
            moving.clear();
            day.lines = 0;
            findReach();
        }

        void copyFrom(Bench other) {
            length = other.length;
            people = other.people;
            hour = other.hour;
            lines = other.lines;
            System.arraycopy(other.rest, 0, rest, 0, INCHES);
            System.arraycopy(other.reach, 0, reach, 0, INCHES);
            System.arraycopy(other.warm, 0, warm, 0, INCHES);
            System.arraycopy(other.seat, 0, seat, 0, PERSONS);
            for (int i = 0; i < told.length; i++) {
                System.arraycopy(other.told[i], 0, told[i], 0, PERSONS);
            }
            for (int i = 0; i < book.length; i++) {
                System.arraycopy(other.book[i], 0, book[i], 0, BOOK_LINES);
            }
            sitting.copyFrom(other.sitting);
            moving.copyFrom(other.moving);
            day.copyFrom(other.day);
        }

        void putRest(int inch, boolean there) {
            if (inch < 1 || inch >= length) {
                return;
            }
            rest[inch] = there ? 1 : 0;
            findReach();
        }

        // reach of an inch: how far to the right WIDE may go from there
        private void findReach() {
            int far = length;
            for (int i = length - 1; i >= 0; i--) {
                reach[i] = far;
                if (rest[i] == 1) {
                    far = i;
                }
            }
        }

        boolean isPerson(int person) {
            return person >= 0 && person < people && person < PERSONS;
        }

        boolean isSeated(int person) {
            return isPerson(person) && seat[person] != NONE;
        }

        boolean isAside(int person) {
            return isPerson(person) && seat[person] == NONE;
        }

        int takes(int person) {
            return isPerson(person) ? told[WIDE][person] + told[BAG][person] : 0;
        }

        boolean isClear(int inch, int wide) {
            return inch >= 0 && inch < length && inch + wide <= reach[inch];
        }

        boolean fits(int person, int inch) {
            return isPerson(person) && isClear(inch, told[WIDE][person])
                    && inch + told[WIDE][person] + told[BAG][person] <= length;
        }

        int apart(int left, int right) {
            if (!isPerson(left) || !isPerson(right)) {
                return 0;
            }
            int group = told[GROUP][left];
            if (group > 0 && group == told[GROUP][right]) {
                return 0;
            }
            return Math.max(told[KEEP][left], told[KEEP][right]);
        }

        boolean isSatOver(int inch) {
            for (int p = 0; p < people; p++) {
                if (seat[p] != NONE && seat[p] < inch && inch < seat[p] + told[WIDE][p]) {
                    return true;
                }
            }
            return false;
        }

        int whoIsAt(int inch) {
            for (int p = 0; p < people; p++) {
                if (seat[p] != NONE && seat[p] <= inch && inch < seat[p] + takes(p)) {
                    return p;
                }
            }
            return NONE;
        }

        // the place among those who SIT, from the left
        int rank(int person) {
            if (!isSeated(person)) {
                return NONE;
            }
            int rank = 0;
            for (int p = 0; p < people; p++) {
                if (seat[p] != NONE && seat[p] < seat[person]) {
                    rank++;
                }
            }
            return rank;
        }

        int whoIsNth(int rank) {
            for (int p = 0; p < people; p++) {
                if (seat[p] != NONE && rank(p) == rank) {
                    return p;
                }
            }
            return NONE;
        }

        int seated() {
            int count = 0;
            for (int p = 0; p < people; p++) {
                if (seat[p] != NONE) {
                    count++;
                }
            }
            return count;
        }

        int free() {
            int count = length;
            for (int p = 0; p < people; p++) {
                if (seat[p] != NONE) {
                    count -= takes(p);
                }
            }
            return count;
        }

        int rests() {
            int count = 0;
            for (int i = 0; i < length; i++) {
                count += rest[i];
            }
            return count;
        }

        void warmSeats(int atHour) {
            for (int p = 0; p < people; p++) {
                if (seat[p] == NONE) {
                    continue;
                }
                int end = Math.min(seat[p] + told[WIDE][p], length);
                for (int i = seat[p]; i < end; i++) {
                    warm[i] = atHour;
                }
            }
        }

        void write(int person, int what, int inch) {
            if (lines >= BOOK_LINES) {
                return;
            }
            book[0][lines] = hour;
            book[1][lines] = person;
            book[2][lines] = what;
            book[3][lines] = inch;
            lines++;
        }
    }

    /** A LAW: its lines one behind the other, each E and then B, in postfix order. */
    private static final class Law {

        // up to TERM - 1 a NUMBER, then the TERMS, the KEYWORDS, the signs
        static final int TERM = 10000;
        static final int WORD = 20000;
        static final int SIGN = 30000;

        static final int OR = WORD + 3;
        static final int AND = WORD + 4;
        static final int NOT = WORD + 5;

        // what is told of the one who sits down or is moved
        static final int HOUR = 4;
        static final int AT = 5;
        static final int LEFT = 6;
        static final int RIGHT = 7;
        static final int WARM = 8;
        static final int FRIENDS = 9;
        static final int HOW_MANY_SIT = 10;
        static final int MOVED = 11;
        static final int TERMS = 12;

        // eight ( or not that are open hold two each, and E four more
        private static final int DEEP = 40;

        int lines;
        int size;
        final int[] code = new int[TAPE_BYTES + 1];
        final int[] from = new int[LAW_LINES];
        final int[] when = new int[LAW_LINES];
        final int[] stop = new int[LAW_LINES];
        private final int[] stack = new int[DEEP];

        void clear() {
            lines = 0;
            size = 0;
        }

        void copyFrom(Law other) {
            lines = other.lines;
            size = other.size;
            System.arraycopy(other.code, 0, code, 0, code.length);
            System.arraycopy(other.from, 0, from, 0, LAW_LINES);
            System.arraycopy(other.when, 0, when, 0, LAW_LINES);
            System.arraycopy(other.stop, 0, stop, 0, LAW_LINES);
        }

        void add(int item) {
            if (size < code.length) {
                code[size] = item;
                size++;
            }
        }

        /** E of the first line whose B is so, or that has none; otherwise what is without a line. */
        int value(int[] terms, int without) {
            for (int i = 0; i < lines && i < LAW_LINES; i++) {
                if (when[i] == stop[i] || run(when[i], stop[i], terms) != 0) {
                    return run(from[i], when[i], terms);
                }
            }
            return without;
        }

        private int run(int start, int end, int[] terms) {
            int top = 0;
            for (int i = Math.max(start, 0); i < end && i < size; i++) {
                int item = code[i];
                if (item < WORD) {
                    int term = item - TERM;
                    if (top < DEEP && term < terms.length) {
                        stack[top] = term < 0 ? item : terms[term];
                        top++;
                    }
                } else if (item == NOT) {
                    if (top > 0 && top <= DEEP) {
                        stack[top - 1] = 1 - stack[top - 1];
                    }
                } else if (top > 1 && top <= DEEP) {
                    top--;
                    stack[top - 1] = joined(item, stack[top - 1], stack[top]);
                }
            }
            return stack[0];
        }

        private static int joined(int item, int a, int b) {
            switch (item) {
                case SIGN + '+': return a + b;
                case SIGN + '-': return a - b;
                case SIGN + '*': return a * b;
                case SIGN + '/': return b == 0 ? 0 : a / b;
                case SIGN + '<': return a < b ? 1 : 0;
                case SIGN + '=': return a == b ? 1 : 0;
                case SIGN + '>': return a > b ? 1 : 0;
                case AND: return a & b;
                case OR: return a | b;
                default: return 0;
            }
        }
    }

    /** A DAY: its lines. */
    private static final class Day {

        static final int COME = 0;
        static final int GO = 1;
        static final int BEG = 2;

        int lines;
        final int[] act = new int[DAY_LINES];
        final int[] who = new int[DAY_LINES];
        final int[] hour = new int[DAY_LINES];

        void copyFrom(Day other) {
            lines = other.lines;
            System.arraycopy(other.act, 0, act, 0, DAY_LINES);
            System.arraycopy(other.who, 0, who, 0, DAY_LINES);
            System.arraycopy(other.hour, 0, hour, 0, DAY_LINES);
        }

        void add(int whichAct, int person, int atHour) {
            if (lines < DAY_LINES) {
                act[lines] = whichAct;
                who[lines] = person;
                hour[lines] = atHour;
                lines++;
            }
        }

        /** The least HOUR of a line, from this one on; HOURS without one. */
        int nextHour(int atHour) {
            int next = HOURS;
            for (int i = 0; i < lines && i < DAY_LINES; i++) {
                if (hour[i] >= atHour && hour[i] < next) {
                    next = hour[i];
                }
            }
            return next;
        }
    }

    /** The TAPE, and the TEXT that it is read into. */
    private static final class Reader {

        private static final int BAD = -1;
        private static final int END = -2;
        private static final int OPEN_MOST = 8;
        private static final String SIGNS = ";+-*/()<=>";

        // sit and cost stand at the numbers of their TEXTS, the TERMS in their order
        private static final String WORDS =
                "sit cost when or and not come go beg wide keep bag group hour at left right warm friends sitting moved ";
        private static final int WHEN = Law.WORD + 2;
        private static final int COME = Law.WORD + 6;
        private static final int WIDE_WORD = Law.WORD + 9;
        private static final int AT_WORD = WIDE_WORD + Law.AT;

        int size;
        int fault;
        int faultPlace = NONE;
        final Law law = new Law();
        final Day day = new Day();
        private int kind;
        private int tokens;
        private int next;
        private final int[] tape = new int[TAPE_BYTES];
        private final int[] token = new int[TAPE_BYTES + 1];
        private final int[] place = new int[TAPE_BYTES + 1];

        void append(int four) {
            for (int shift = 24; shift >= 0; shift -= 8) {
                if (size < TAPE_BYTES) {
                    tape[size] = (four >> shift) & 255;
                    size++;
                }
            }
        }

        /** Reads the TAPE, which is empty then, as TEXT k: false if it can't be. */
        boolean reads(int k, int people) {
            fault = 0;
            faultPlace = NONE;
            kind = k;
            next = 0;
            split();
            size = 0;
            if (k == DAY) {
                readDay(people);
            } else if (k == SITTING || k == MOVING) {
                readLaw();
            } else {
                return false;
            }
            return fault == 0;
        }

        private void split() {
            tokens = 0;
            int i = 0;
            while (i < size) {
                int from = i;
                i++;
                if (isLetter(tape[from])) {
                    while (i < size && isLetter(tape[i])) {
                        i++;
                    }
                } else if (isDigit(tape[from])) {
                    while (i < size && isDigit(tape[i])) {
                        i++;
                    }
                }
                if (tape[from] != 32 && tape[from] != 10) {
                    addToken(tokenOf(from, i), from);
                }
            }
            addToken(END, size);
        }

        private void addToken(int item, int from) {
            if (tokens < token.length) {
                token[tokens] = item;
                place[tokens] = from;
                tokens++;
            }
        }

        private static boolean isLetter(int sign) {
            return sign >= 'a' && sign <= 'z' || sign >= 'A' && sign <= 'Z';
        }

        private static boolean isDigit(int sign) {
            return sign >= '0' && sign <= '9';
        }

        private int tokenOf(int from, int to) {
            int first = tape[from];
            if (isLetter(first)) {
                int word = wordOf(from, to);
                return word == NONE ? BAD : Law.WORD + word;
            }
            if (!isDigit(first)) {
                return SIGNS.indexOf((char) first) < 0 ? BAD : Law.SIGN + first;
            }
            if (to - from > 4) {
                return BAD;
            }
            int number = 0;
            for (int i = from; i < to; i++) {
                number = number * 10 + tape[i] - '0';
            }
            return number;
        }

        private int wordOf(int from, int to) {
            int word = 0;
            int alike = 0;
            for (int i = 0; i < WORDS.length(); i++) {
                char letter = WORDS.charAt(i);
                if (letter == ' ') {
                    if (alike == to - from) {
                        return word;
                    }
                    word++;
                    alike = 0;
                } else if (alike >= 0 && from + alike < to && tape[from + alike] == letter) {
                    alike++;
                } else {
                    alike = NONE;
                }
            }
            return NONE;
        }

        private void fail(int which) {
            if (fault == 0) {
                fault = which;
                faultPlace = place[next];
            }
        }

        private void step() {
            if (next + 1 < tokens) {
                next++;
            }
        }

        private void take(int item) {
            if (fault == 0 && token[next] == item) {
                step();
            } else {
                fail(1);
            }
        }

        private void readLaw() {
            law.clear();
            for (int i = 0; i < tokens && fault == 0 && token[next] != END; i++) {
                if (token[next] != Law.WORD + kind) {
                    fail(1);
                    return;
                }
                if (law.lines >= LAW_LINES) {
                    fail(3);
                    return;
                }
                step();
                law.from[law.lines] = law.size;
                readSum();
                law.when[law.lines] = law.size;
                if (fault == 0 && token[next] == WHEN) {
                    step();
                    readClaims(Law.OR, 0);
                }
                law.stop[law.lines] = law.size;
                law.lines++;
                take(Law.SIGN + ';');
            }
        }

        // B when they are joined by or, A when by and
        private void readClaims(int word, int open) {
            for (int i = 0; i < tokens && fault == 0; i++) {
                if (word == Law.OR) {
                    readClaims(Law.AND, open);
                } else {
                    readClaim(open);
                }
                if (i > 0) {
                    law.add(word);
                }
                if (token[next] != word) {
                    return;
                }
                step();
            }
        }

        private void readClaim(int open) {
            int first = token[next];
            if (first == Law.NOT || first == Law.SIGN + '(') {
                if (open >= OPEN_MOST) {
                    fail(3);
                    return;
                }
                step();
                if (first == Law.NOT) {
                    readClaim(open + 1);
                    law.add(Law.NOT);
                } else {
                    readClaims(Law.OR, open + 1);
                    take(Law.SIGN + ')');
                }
                return;
            }
            readSum();
            int sign = token[next];
            if (sign != Law.SIGN + '<' && sign != Law.SIGN + '=' && sign != Law.SIGN + '>') {
                fail(1);
            }
            if (fault == 0) {
                step();
                readSum();
                law.add(sign);
            }
        }

        private void readSum() {
            int sign = END;
            for (int i = 0; i < tokens && fault == 0; i++) {
                readProduct();
                if (i > 0) {
                    law.add(sign);
                }
                sign = token[next];
                if (sign != Law.SIGN + '+' && sign != Law.SIGN + '-') {
                    return;
                }
                step();
            }
        }

        private void readProduct() {
            int sign = END;
            for (int i = 0; i < tokens && fault == 0; i++) {
                int item = token[next];
                boolean number = item >= 0 && item < Law.TERM;
                boolean parted = sign == Law.SIGN + '/';
                if (!number && (parted || !isTerm(item))) {
                    fail(1);
                    return;
                }
                if (parted && item == 0) {
                    fail(2);
                    return;
                }
                law.add(number ? item : item - WIDE_WORD + Law.TERM);
                if (i > 0) {
                    law.add(sign);
                }
                step();
                sign = token[next];
                if (sign != Law.SIGN + '*' && sign != Law.SIGN + '/') {
                    return;
                }
                step();
            }
        }

        private boolean isTerm(int item) {
            int term = item - WIDE_WORD;
            if (term < 0 || term > Law.MOVED) {
                return false;
            }
            return term <= Law.HOUR || (kind == MOVING) == (term == Law.MOVED);
        }

        private void readDay(int people) {
            day.lines = 0;
            for (int i = 0; i < tokens && fault == 0 && token[next] != END; i++) {
                int act = token[next] - COME;
                if (act < Day.COME || act > Day.BEG) {
                    fail(1);
                    return;
                }
                if (day.lines >= DAY_LINES) {
                    fail(3);
                    return;
                }
                step();
                int person = readNumber(people - 1);
                take(AT_WORD);
                int hour = readNumber(HOURS - 1);
                take(Law.SIGN + ';');
                day.add(act, person, hour);
            }
        }

        private int readNumber(int most) {
            int item = token[next];
            if (item < 0 || item >= Law.TERM) {
                fail(1);
            } else if (item > most) {
                fail(2);
            }
            if (fault == 0) {
                step();
            }
            return item;
        }
    }

    /** Those who SIT, in thought, from the left, and one who asks for a place among them. */
    private static final class Row {

        int size;
        final int[] at = new int[INCHES];
        final int[] end = new int[INCHES];
        final int[] keep = new int[INCHES];
        final int[] group = new int[INCHES];
        final int[] who = new int[INCHES];
        int askerWide;
        int askerKeep;
        int askerBag;
        int askerGroup;

        /** Those who SIT and whose bit is in persons. */
        void gather(Bench bench, int persons) {
            size = 0;
            for (int p = 0; p < bench.people; p++) {
                if (bench.isSeated(p) && (persons >> p & 1) == 1) {
                    int i = placeFor(bench.seat[p]);
                    if (i == NONE) {
                        return;
                    }
                    at[i] = bench.seat[p];
                    end[i] = bench.seat[p] + bench.takes(p);
                    keep[i] = bench.told[KEEP][p];
                    group[i] = bench.told[GROUP][p];
                    who[i] = p;
                }
            }
        }

        void askFor(Bench bench, int person) {
            if (bench.isPerson(person)) {
                askerWide = bench.told[WIDE][person];
                askerKeep = bench.told[KEEP][person];
                askerBag = bench.told[BAG][person];
                askerGroup = bench.told[GROUP][person];
            }
        }

        void askForAlike(int wide, int keeps) {
            askerWide = wide;
            askerKeep = keeps;
            askerBag = 0;
            askerGroup = 0;
        }

        void seatAsker(int inch) {
            int i = placeFor(inch);
            if (i == NONE) {
                return;
            }
            at[i] = inch;
            end[i] = inch + askerWide + askerBag;
            keep[i] = askerKeep;
            group[i] = askerGroup;
            who[i] = NONE;
        }

        // makes way in the order from the left; NONE when all inches have somebody
        private int placeFor(int inch) {
            if (size >= INCHES) {
                return NONE;
            }
            int i = size;
            for (; i > 0 && at[i - 1] > inch; i--) {
                at[i] = at[i - 1];
                end[i] = end[i - 1];
                keep[i] = keep[i - 1];
                group[i] = group[i - 1];
                who[i] = who[i - 1];
            }
            size++;
            return i;
        }

        boolean isFriend(int i) {
            return i >= 0 && i < size && askerGroup > 0 && group[i] == askerGroup;
        }

        private int apart(int i) {
            return isFriend(i) ? 0 : Math.max(keep[i], askerKeep);
        }

        /** What the neighbour ahead of a gap takes ends there. */
        int gapStart(int gap) {
            return gap > 0 && gap <= size ? end[gap - 1] : 0;
        }

        int gapEnd(int gap, int length) {
            return gap >= 0 && gap < size ? at[gap] : length;
        }

        /** The first inch of a gap at which its neighbours let the asker sit. */
        int lowest(int gap) {
            return gap > 0 && gap <= size ? end[gap - 1] + apart(gap - 1) : 0;
        }

        int highest(int gap, int length) {
            int far = gap >= 0 && gap < size ? at[gap] - apart(gap) : length;
            return far - askerWide - askerBag;
        }

        int gapOf(int inch) {
            int gap = 0;
            for (int i = 0; i < size; i++) {
                if (at[i] < inch) {
                    gap = i + 1;
                }
            }
            return gap;
        }
    }

    /** What THE LAW OF SITTING tells the asker of the row. */
    private static final class Seats {

        private static final int WARM_HOURS = 9;

        private final Bench bench;
        private final Row row;
        private final int[] terms = new int[Law.TERMS];

        Seats(Bench bench, Row row) {
            this.bench = bench;
            this.row = row;
        }

        boolean isPlace(int inch) {
            int gap = row.gapOf(inch);
            return inch >= row.lowest(gap) && inch <= row.highest(gap, bench.length)
                    && bench.isClear(inch, row.askerWide);
        }

        int valueAt(int inch) {
            tellAsker();
            return value(row.gapOf(inch), inch);
        }

        /** The inch at which the asker SITS; NONE without a place. */
        int best() {
            tellAsker();
            int best = NONE;
            int most = 0;
            for (int gap = 0; gap <= row.size; gap++) {
                int last = row.highest(gap, bench.length);
                for (int inch = row.lowest(gap); inch <= last; inch++) {
                    if (bench.isClear(inch, row.askerWide)) {
                        int told = value(gap, inch);
                        if (best == NONE || told > most) {
                            best = inch;
                            most = told;
                        }
                    }
                }
            }
            return best;
        }

        int fillByLaw(int wide, int keep) {
            row.askForAlike(wide, keep);
            int count = 0;
            for (int i = 0; i < INCHES; i++) {
                int inch = best();
                if (inch == NONE) {
                    return count;
                }
                row.seatAsker(inch);
                count++;
            }
            return count;
        }

        private void tellAsker() {
            terms[WIDE] = row.askerWide;
            terms[KEEP] = row.askerKeep;
            terms[BAG] = row.askerBag;
            terms[GROUP] = row.askerGroup;
            terms[Law.HOUR] = bench.hour;
            terms[Law.HOW_MANY_SIT] = row.size;
        }

        private int value(int gap, int inch) {
            int behind = inch + row.askerWide + row.askerBag;
            terms[Law.AT] = inch;
            terms[Law.LEFT] = inch - row.gapStart(gap);
            terms[Law.RIGHT] = row.gapEnd(gap, bench.length) - behind;
            terms[Law.WARM] = warmInches(inch);
            terms[Law.FRIENDS] = (row.isFriend(gap - 1) ? 1 : 0) + (row.isFriend(gap) ? 1 : 0);
            return bench.sitting.value(terms, 0);
        }

        private int warmInches(int inch) {
            int count = 0;
            int end = Math.min(inch + row.askerWide, bench.length);
            for (int i = Math.max(inch, 0); i < end; i++) {
                if (bench.warm[i] != NONE && bench.hour - bench.warm[i] <= WARM_HOURS) {
                    count++;
                }
            }
            return count;
        }
    }

    /** ROOM: from the right, for each PERSON and inch, the least that those from him on can cost. */
    private static final class Room {

        private static final int FAR = 1000000;
        private static final int DEAREST = 999;
        // a cost and how many are moved in one number: ten are fewer than that
        private static final int COST = 16;

        final int[] inch = new int[PERSONS];
        private final Bench bench;
        private final Row row;
        private final int[] terms = new int[Law.TERMS];
        private final int[][] costs = new int[PERSONS][INCHES];
        private final int[][] exact = new int[PERSONS][INCHES + 1];
        private final int[][] least = new int[PERSONS][INCHES + 1];
        private final int[] line = new int[PERSONS];
        private int found;

        Room(Bench bench, Row row) {
            this.bench = bench;
            this.row = row;
        }

        int cost() {
            return found / COST;
        }

        int moved() {
            return found % COST;
        }

        /** What it costs to move each who SITS; needed ahead of find(). */
        void reckonCosts() {
            terms[Law.HOUR] = bench.hour;
            for (int p = 0; p < bench.people; p++) {
                if (!bench.isSeated(p) || bench.told[MOVES][p] == 0) {
                    continue;
                }
                for (int i = WIDE; i <= GROUP; i++) {
                    terms[i] = bench.told[i][p];
                }
                for (int by = 1; by < bench.length; by++) {
                    terms[Law.MOVED] = by;
                    costs[p][by] = Math.min(Math.max(bench.moving.value(terms, by), 0), DEAREST);
                }
            }
        }

        /** ROOM of a PERSON among those whose bit is in persons: inch[] tells who sits where then. */
        boolean find(int asker, int persons) {
            row.gather(bench, persons);
            found = FAR;
            for (int gap = 0; gap <= row.size && row.size < PERSONS; gap++) {
                for (int i = 0; i <= row.size; i++) {
                    line[i] = i == gap ? asker : row.who[i < gap ? i : i - 1];
                }
                weigh(asker, row.size + 1);
                if (least[0][0] < found) {
                    found = least[0][0];
                    settle(row.size + 1);
                }
            }
            return found < FAR;
        }

        private void weigh(int asker, int count) {
            int length = bench.length;
            for (int i = count - 1; i >= 0; i--) {
                int takes = takesWithKeep(i, count);
                least[i][length] = FAR;
                for (int x = length - 1; x >= 0; x--) {
                    int sum = weightOf(line[i], asker, x);
                    if (i + 1 < count) {
                        sum += x + takes > length ? FAR : least[i + 1][x + takes];
                    }
                    exact[i][x] = sum;
                    least[i][x] = Math.min(sum, least[i][x + 1]);
                }
            }
        }

        private int takesWithKeep(int i, int count) {
            int takes = bench.takes(line[i]);
            return i + 1 < count ? takes + bench.apart(line[i], line[i + 1]) : takes;
        }

        private int weightOf(int person, int asker, int x) {
            if (!bench.fits(person, x)) {
                return FAR;
            }
            int by = Math.abs(x - bench.seat[person]);
            if (person == asker || by == 0) {
                return 0;
            }
            return bench.told[MOVES][person] == 0 || by >= INCHES ? FAR : costs[person][by] * COST + 1;
        }

        private void settle(int count) {
            int from = 0;
            for (int i = 0; i < count; i++) {
                int x = from;
                while (x < bench.length && exact[i][x] != least[i][from]) {
                    x++;
                }
                inch[line[i]] = x;
                from = Math.min(x + takesWithKeep(i, count), bench.length);
            }
        }
    }

    /** FILL by alike ones of the free stretches between those of the row. */
    private static final class Filling {

        static final int FEWEST_OF_ALL = 0;
        static final int MOST_OF_ALL = 1;
        private static final int THOUSANDTHS = 1000;

        private final Bench bench;
        private final Row row;
        private final int[] oneRest = new int[INCHES];
        private final int[] fewestFrom = new int[INCHES + 1];
        private final int[][] means = new int[INCHES + 1][INCHES + 1];
        private final int[] rightParts = new int[INCHES + 1];
        private int wide = 1;
        private int keep;

        Filling(Bench bench, Row row) {
            this.bench = bench;
            this.row = row;
        }

        void ofAlike(int w, int k) {
            wide = Math.max(w, 1);
            keep = Math.max(k, 0);
        }

        int total(int what) {
            int total = 0;
            for (int gap = 0; gap <= row.size; gap++) {
                int from = gap == 0 ? 0 : row.end[gap - 1] + Math.max(row.keep[gap - 1], keep);
                int to = gap == row.size ? bench.length : row.at[gap] - Math.max(row.keep[gap], keep);
                if (from + wide > to) {
                    continue;
                }
                if (what == FEWEST_OF_ALL) {
                    total += fewest(bench.reach, from, to);
                } else {
                    total += what == MOST_OF_ALL ? most(from, to) : mean(from, to);
                }
            }
            return total;
        }

        int bestInchForRest() {
            int length = bench.length;
            int best = 0;
            Arrays.fill(oneRest, length);
            int greatest = fewest(oneRest, 0, length);
            for (int rest = 1; rest < length; rest++) {
                // from there on it is LENGTH still
                Arrays.fill(oneRest, 0, rest, rest);
                int fewest = fewest(oneRest, 0, length);
                if (fewest > greatest) {
                    greatest = fewest;
                    best = rest;
                }
            }
            return best;
        }

        private boolean isClear(int[] reach, int inch) {
            return inch >= 0 && inch < reach.length && inch + wide <= reach[inch];
        }

        // the first one sits so far left that none more fits ahead of him
        private int fewest(int[] reach, int from, int to) {
            int first = NONE;
            for (int start = to; start >= from; start--) {
                if (start + wide <= to && isClear(reach, start)) {
                    first = start;
                }
                int least = first == NONE ? 0 : INCHES;
                int last = first == NONE ? NONE - 1 : Math.min(first + wide + keep - 1, to - wide);
                for (int inch = first; inch <= last; inch++) {
                    if (isClear(reach, inch)) {
                        int behind = inch + wide + keep;
                        least = Math.min(least, behind > to ? 1 : 1 + fewestFrom[behind]);
                    }
                }
                fewestFrom[start] = least;
            }
            return fewestFrom[from];
        }

        private int most(int from, int to) {
            int count = 0;
            int next = from;
            for (int inch = from; inch + wide <= to; inch++) {
                if (inch >= next && isClear(bench.reach, inch)) {
                    count++;
                    next = inch + wide + keep;
                }
            }
            return count;
        }

        private int mean(int from, int to) {
            Arrays.fill(rightParts, 0);
            for (int a = to; a >= from; a--) {
                boolean clear = isClear(bench.reach, a);
                int places = 0;
                int leftParts = 0;
                for (int b = a; b <= to; b++) {
                    int inch = b - wide;
                    if (inch >= a && isClear(bench.reach, inch)) {
                        places++;
                        leftParts += meanOf(a, inch - keep);
                    }
                    if (clear && a + wide <= b) {
                        rightParts[b] += meanOf(a + wide + keep, b);
                    }
                    int sum = THOUSANDTHS * places + leftParts + rightParts[b];
                    means[a][b] = places == 0 ? 0 : sum / places;
                }
            }
            return means[from][to];
        }

        private int meanOf(int a, int b) {
            return a < 0 || b > INCHES || a >= b ? 0 : means[a][b];
        }
    }

    /** ORDERS: for each set of those who are there already, in how many orders the others can come. */
    private static final class Arrivals {

        private final Bench bench;
        private final Row row;
        private final Seats seats;
        private final int[] who = new int[ORDERED];
        private final int[] ways = new int[1 << ORDERED];
        private final int[] nextOnes = new int[1 << ORDERED];
        private int count;

        Arrivals(Bench bench, Row row, Seats seats) {
            this.bench = bench;
            this.row = row;
            this.seats = seats;
        }

        /** False if more SIT than can be put in order. */
        boolean gatherAll() {
            count = 0;
            for (int p = 0; p < bench.people; p++) {
                if (bench.isSeated(p)) {
                    if (count >= ORDERED) {
                        return false;
                    }
                    who[count] = p;
                    count++;
                }
            }
            return true;
        }

        // only for sets that can come about, as SITTING is asked often here
        void findNextOnes() {
            int all = (1 << count) - 1;
            Arrays.fill(nextOnes, 0);
            Arrays.fill(ways, 0);
            ways[0] = 1;
            for (int there = 0; there < all; there++) {
                for (int i = 0; i < count && ways[there] > 0; i++) {
                    int bit = 1 << i;
                    if ((there & bit) == 0 && sitsSo(i, there)) {
                        nextOnes[there] |= bit;
                        ways[there | bit] = 1;
                    }
                }
            }
        }

        /** From all back to nobody; whoever leads to no order is no next one any more. */
        void countWays() {
            int all = (1 << count) - 1;
            for (int there = all; there >= 0; there--) {
                ways[there] = there == all ? 1 : 0;
                for (int i = 0; i < count; i++) {
                    int bit = 1 << i;
                    if ((nextOnes[there] & bit) == 0) {
                        continue;
                    }
                    ways[there] += ways[there | bit];
                    if (ways[there | bit] == 0) {
                        nextOnes[there] -= bit;
                    }
                }
            }
        }

        private boolean sitsSo(int i, int there) {
            int persons = 0;
            for (int j = 0; j < count; j++) {
                if ((there >> j & 1) == 1) {
                    persons |= 1 << who[j];
                }
            }
            row.gather(bench, persons);
            row.askFor(bench, who[i]);
            return seats.best() == bench.seat[who[i]];
        }

        int howMany() {
            return ways[0];
        }

        int inFirst(int wanted) {
            int there = 0;
            for (int i = 0; i < count; i++) {
                int next = Integer.numberOfTrailingZeros(nextOnes[there]);
                if (next >= count) {
                    return NONE;
                }
                if (i == wanted) {
                    return who[next];
                }
                there |= 1 << next;
            }
            return NONE;
        }
    }

    /** The ACTS and the HOURS; how many stood, and when the first one did, is counted beside. */
    private static final class Acts {

        int stood;
        int firstStood = NONE;
        private final Bench bench;
        private final Row row;
        private final Seats seats;
        private final Room rooms;

        Acts(Bench bench, Row row, Seats seats, Room rooms) {
            this.bench = bench;
            this.row = row;
            this.seats = seats;
            this.rooms = rooms;
        }

        int comes(int person) {
            if (!bench.isAside(person)) {
                return NONE;
            }
            row.gather(bench, ALL);
            row.askFor(bench, person);
            int inch = seats.best();
            bench.seat[person] = inch;
            bench.write(person, inch == NONE ? CAME_AND_STANDS : CAME, inch);
            if (inch == NONE) {
                countStanding();
            }
            return inch;
        }

        void goes(int person) {
            if (bench.isSeated(person)) {
                bench.write(person, WENT, bench.seat[person]);
                bench.seat[person] = NONE;
            }
        }

        int begs(int person) {
            if (!bench.isAside(person)) {
                return NONE;
            }
            rooms.reckonCosts();
            if (!rooms.find(person, ALL)) {
                bench.write(person, BEGGED_AND_STANDS, NONE);
                countStanding();
                return NONE;
            }
            for (int p = 0; p < bench.people; p++) {
                if (p == person || bench.isSeated(p)) {
                    bench.seat[p] = rooms.inch[p];
                }
            }
            bench.write(person, BEGGED, bench.seat[person]);
            return bench.seat[person];
        }

        private void countStanding() {
            stood++;
            if (firstStood == NONE) {
                firstStood = bench.hour;
            }
        }

        /** How many lines of A DAY were done. */
        int passHour() {
            int done = 0;
            Day day = bench.day;
            for (int i = 0; i < day.lines && i < DAY_LINES; i++) {
                int person = day.who[i];
                boolean can = day.act[i] == Day.GO ? bench.isSeated(person) : bench.isAside(person);
                if (day.hour[i] != bench.hour || !can) {
                    continue;
                }
                done++;
                switch (day.act[i]) {
                    case Day.COME: comes(person); break;
                    case Day.GO: goes(person); break;
                    default: begs(person);
                }
            }
            bench.warmSeats(bench.hour);
            bench.hour++;
            return done;
        }

        /** HOURS without a line of A DAY only warm what is sat on. */
        void skipTo(int hour) {
            if (hour > bench.hour) {
                bench.warmSeats(hour - 1);
                bench.hour = hour;
            }
        }

        void countNone() {
            stood = 0;
            firstStood = NONE;
        }
    }

    /** What can be undone, the latest ones in a ring; one slot more for what is only thought. */
    private static final class Past {

        private static final int KEPT = 6;

        int count;
        private int next;
        private final int[][] seat = new int[KEPT + 1][PERSONS];
        private final int[][] warm = new int[KEPT + 1][INCHES];
        private final int[] hour = new int[KEPT + 1];
        private final int[] lines = new int[KEPT + 1];

        void forget() {
            count = 0;
        }

        void keepNow(Bench bench) {
            save(bench, next);
            next = (next + 1) % KEPT;
            count = Math.min(count + 1, KEPT);
        }

        boolean goBack(Bench bench) {
            if (count == 0) {
                return false;
            }
            count--;
            next = (next + KEPT - 1) % KEPT;
            load(bench, next);
            return true;
        }

        void keepThought(Bench bench) {
            save(bench, KEPT);
        }

        void endThought(Bench bench) {
            load(bench, KEPT);
        }

        // lines of THE BOOK that were written since are gone with their count
        private void save(Bench bench, int slot) {
            if (slot < 0 || slot > KEPT) {
                return;
            }
            System.arraycopy(bench.seat, 0, seat[slot], 0, PERSONS);
            System.arraycopy(bench.warm, 0, warm[slot], 0, INCHES);
            hour[slot] = bench.hour;
            lines[slot] = bench.lines;
        }

        private void load(Bench bench, int slot) {
            if (slot < 0 || slot > KEPT) {
                return;
            }
            System.arraycopy(seat[slot], 0, bench.seat, 0, PERSONS);
            System.arraycopy(warm[slot], 0, bench.warm, 0, INCHES);
            bench.hour = hour[slot];
            bench.lines = lines[slot];
        }
    }
}
