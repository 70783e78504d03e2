import java.util.ArrayList;
import java.util.Arrays;
import java.util.HashMap;
import java.util.HashSet;
import java.util.List;
import java.util.Map;
import java.util.Set;
import java.util.TreeSet;
import java.util.function.ToIntFunction;
import java.util.regex.Matcher;
import java.util.regex.Pattern;

/** The document once more, by other and plainer ways than MoveUp's: what ModelTest compares it with. */
final class Model {
    static final int NONE = -1;

    /** A PERSON, or an alike one. */
    static final class Person {
        int[] told = new int[5];
        int at = NONE;
        int number;

        int takes() {
            return told[0] + told[2];
        }

        Person copy() {
            Person p = new Person();
            p.told = told.clone();
            p.at = at;
            p.number = number;
            return p;
        }
    }

    record Line(ToIntFunction<Map<String, Integer>> sum, ToIntFunction<Map<String, Integer>> when) {
    }

    record DayLine(String act, int person, int hour) {
    }

    /** All that THE IMAGE keeps. */
    static final class State {
        int length = 40;
        int hour = 0;
        Set<Integer> rests = new TreeSet<>();
        List<Person> people = new ArrayList<>();
        Map<Integer, Integer> warm = new HashMap<>();
        List<int[]> book = new ArrayList<>();
        List<Line> sitting = List.of();
        List<Line> moving = List.of();
        List<DayLine> day = List.of();

        State copy() {
            State s = new State();
            s.length = length;
            s.hour = hour;
            s.rests = new TreeSet<>(rests);
            for (Person p : people) {
                s.people.add(p.copy());
            }
            s.warm = new HashMap<>(warm);
            s.book = new ArrayList<>(book);
            s.sitting = sitting;
            s.moving = moving;
            s.day = day;
            return s;
        }

        List<Person> seated() {
            List<Person> all = new ArrayList<>();
            for (Person p : people) {
                if (p.at != NONE) {
                    all.add(p);
                }
            }
            all.sort((a, b) -> Integer.compare(a.at, b.at));
            return all;
        }

        Person sitter(int person) {
            Person p = person < 0 || person >= people.size() ? null : people.get(person);
            return p == null || p.at == NONE ? null : p;
        }

        Person stander(int person) {
            Person p = person < 0 || person >= people.size() ? null : people.get(person);
            return p == null || p.at != NONE ? null : p;
        }
    }

    static final class Fault extends RuntimeException {
        private static final long serialVersionUID = 1L;
        final int which;
        final int place;

        Fault(int which, int place) {
            this.which = which;
            this.place = place;
        }
    }

    State state = new State();
    State image = null;
    List<State> past = new ArrayList<>();
    StringBuilder tape = new StringBuilder();
    int fault = 0;
    int faultPlace = NONE;
    int stood;
    int firstStood;

    // ---- telling

    boolean bench(int length) {
        if (length < 1 || length > 60) {
            return false;
        }
        state = new State();
        state.length = length;
        past.clear();
        return true;
    }

    boolean rest(int inch, boolean there) {
        if (inch < 1 || inch > state.length - 1) {
            return false;
        }
        if (there) {
            for (Person p : state.seated()) {
                if (p.at < inch && inch < p.at + p.told[0]) {
                    return false;
                }
            }
            state.rests.add(inch);
        } else {
            state.rests.remove(inch);
        }
        past.clear();
        return true;
    }

    static boolean can(int what, int v) {
        switch (what) {
            case 0: return v >= 1 && v <= 20;
            case 1: return v >= 0 && v <= 15;
            case 2: return v >= 0 && v <= 10;
            case 3: return v >= 0 && v <= 9;
            case 4: return v == 0 || v == 1;
            default: return false;
        }
    }

    int person(int... told) {
        for (int i = 0; i < 5; i++) {
            if (!can(i, told[i])) {
                return NONE;
            }
        }
        if (state.people.size() == 10) {
            return NONE;
        }
        Person p = new Person();
        p.told = told.clone();
        p.number = state.people.size();
        state.people.add(p);
        past.clear();
        return p.number;
    }

    boolean set(int what, int person, int v) {
        if (!can(what, v) || person < 0 || person >= state.people.size()) {
            return false;
        }
        if (what != 4 && state.stander(person) == null) {
            return false;
        }
        state.people.get(person).told[what] = v;
        past.clear();
        return true;
    }

    // ---- places

    static int apart(Person a, Person b) {
        return a.told[3] > 0 && a.told[3] == b.told[3] ? 0 : Math.max(a.told[1], b.told[1]);
    }

    static boolean fits(State s, Person p, int inch) {
        if (inch < 0 || inch > s.length || inch + p.takes() > s.length) {
            return false;
        }
        for (int r : s.rests) {
            if (inch < r && r < inch + p.told[0]) {
                return false;
            }
        }
        return true;
    }

    static Person neighbour(State s, int inch, boolean left) {
        Person found = null;
        for (Person p : s.seated()) {
            if (left && p.at < inch) {
                found = p;
            }
            if (!left && p.at >= inch) {
                return p;
            }
        }
        return found;
    }

    static boolean hasPlace(State s, Person p, int inch) {
        if (!fits(s, p, inch)) {
            return false;
        }
        Person left = neighbour(s, inch, true);
        Person right = neighbour(s, inch, false);
        return (left == null || inch - (left.at + left.takes()) >= apart(left, p))
                && (right == null || right.at - (inch + p.takes()) >= apart(right, p));
    }

    static int value(List<Line> law, Map<String, Integer> terms, int without) {
        for (Line line : law) {
            if (line.when == null || line.when.applyAsInt(terms) != 0) {
                return line.sum.applyAsInt(terms);
            }
        }
        return without;
    }

    static Map<String, Integer> termsOf(State s, Person p) {
        Map<String, Integer> terms = new HashMap<>();
        terms.put("wide", p.told[0]);
        terms.put("keep", p.told[1]);
        terms.put("bag", p.told[2]);
        terms.put("group", p.told[3]);
        terms.put("hour", s.hour);
        return terms;
    }

    static int told(State s, Person p, int inch) {
        Map<String, Integer> terms = termsOf(s, p);
        Person left = neighbour(s, inch, true);
        Person right = neighbour(s, inch, false);
        terms.put("at", inch);
        terms.put("left", inch - (left == null ? 0 : left.at + left.takes()));
        terms.put("right", (right == null ? s.length : right.at) - (inch + p.takes()));
        int warm = 0;
        for (int i = inch; i < inch + p.told[0]; i++) {
            if (s.warm.containsKey(i) && s.hour - s.warm.get(i) <= 9) {
                warm++;
            }
        }
        terms.put("warm", warm);
        int friends = 0;
        for (Person n : new Person[] {left, right}) {
            if (n != null && p.told[3] > 0 && n.told[3] == p.told[3]) {
                friends++;
            }
        }
        terms.put("friends", friends);
        terms.put("sitting", s.seated().size());
        return value(s.sitting, terms, 0);
    }

    static int best(State s, Person p) {
        int best = NONE;
        int most = 0;
        for (int inch = 0; inch < s.length; inch++) {
            if (hasPlace(s, p, inch)) {
                int v = told(s, p, inch);
                if (best == NONE || v > most) {
                    best = inch;
                    most = v;
                }
            }
        }
        return best;
    }

    // ---- acts

    void keepPast() {
        past.add(state.copy());
        if (past.size() > 6) {
            past.remove(0);
        }
    }

    static void write(State s, int person, int what, int inch) {
        if (s.book.size() < 150) {
            s.book.add(new int[] {s.hour, person, what, inch});
        }
    }

    void stands(State s) {
        stood++;
        if (firstStood == NONE) {
            firstStood = s.hour;
        }
    }

    void comes(State s, Person p) {
        int inch = best(s, p);
        write(s, p.number, inch == NONE ? 1 : 0, inch);
        p.at = inch;
        if (inch == NONE) {
            stands(s);
        }
    }

    void begs(State s, Person p) {
        int[] room = room(s, p);
        if (room == null) {
            write(s, p.number, 4, NONE);
            stands(s);
            return;
        }
        for (Person q : s.people) {
            if (q == p || q.at != NONE) {
                q.at = room[3 + q.number];
            }
        }
        write(s, p.number, 3, p.at);
    }

    static void goes(State s, Person p) {
        write(s, p.number, 2, p.at);
        p.at = NONE;
    }

    int anHour(State s) {
        int done = 0;
        for (DayLine line : s.day) {
            if (line.hour != s.hour) {
                continue;
            }
            Person p = s.people.get(line.person);
            if (line.act.equals("go") != (p.at != NONE)) {
                continue;
            }
            done++;
            switch (line.act) {
                case "go": goes(s, p); break;
                case "come": comes(s, p); break;
                default: begs(s, p);
            }
        }
        for (Person p : s.seated()) {
            for (int i = p.at; i < p.at + p.told[0]; i++) {
                s.warm.put(i, s.hour);
            }
        }
        s.hour++;
        return done;
    }

    int come(int person) {
        Person p = state.stander(person);
        if (p == null) {
            return NONE;
        }
        keepPast();
        comes(state, p);
        return p.at;
    }

    boolean go(int person) {
        if (state.sitter(person) == null) {
            return false;
        }
        keepPast();
        goes(state, state.sitter(person));
        return true;
    }

    int beg(int person) {
        Person p = state.stander(person);
        if (p == null) {
            return NONE;
        }
        keepPast();
        begs(state, p);
        return p.at;
    }

    int hours(int n) {
        if (n < 1 || n > 60 || state.hour + n > 999) {
            return NONE;
        }
        int done = 0;
        for (int i = 0; i < n; i++) {
            keepPast();
            done += anHour(state);
        }
        return done;
    }

    // ---- texts

    int feed(int... numbers) {
        if (tape.length() + 20 > 400) {
            return NONE;
        }
        for (int n : numbers) {
            for (int i = 3; i >= 0; i--) {
                tape.append((char) (n >>> (8 * i) & 255));
            }
        }
        return tape.length();
    }

    boolean end(int n) {
        if (n < 0 || n > tape.length()) {
            return false;
        }
        tape.setLength(n);
        return true;
    }

    int text(int k) {
        String s = tape.toString();
        tape.setLength(0);
        fault = 0;
        faultPlace = NONE;
        if (k < 0 || k > 2) {
            return NONE;
        }
        try {
            Parser parser = new Parser(s, k, state.people.size());
            if (k == 2) {
                state.day = parser.day();
                past.clear();
                return state.day.size();
            }
            List<Line> law = parser.law();
            if (k == 0) {
                state.sitting = law;
            } else {
                state.moving = law;
            }
            return law.size();
        } catch (Fault f) {
            fault = f.which;
            faultPlace = f.place;
            return NONE;
        }
    }

    int fault(int what) {
        return what == 0 ? fault : what == 1 ? faultPlace : NONE;
    }

    static final class Parser {
        private final List<String> tokens = new ArrayList<>();
        private final List<Integer> places = new ArrayList<>();
        private final int kind;
        private final int people;
        private int next = 0;
        private int open = 0;

        Parser(String text, int kind, int people) {
            this.kind = kind;
            this.people = people;
            Matcher m = Pattern.compile("[a-zA-Z]+|[0-9]+|[^ \\n]", Pattern.DOTALL).matcher(text);
            while (m.find()) {
                tokens.add(m.group());
                places.add(m.start());
            }
            tokens.add("");
            places.add(text.length());
        }

        private String peek() {
            return tokens.get(next);
        }

        private Fault at(int which) {
            return new Fault(which, places.get(next));
        }

        private boolean takeIf(String token) {
            if (peek().equals(token)) {
                next++;
                return true;
            }
            return false;
        }

        private void take(String token) {
            if (!takeIf(token)) {
                throw at(1);
            }
        }

        private int number() {
            if (!peek().matches("[0-9]{1,4}")) {
                throw at(1);
            }
            return Integer.parseInt(peek());
        }

        List<Line> law() {
            List<Line> lines = new ArrayList<>();
            while (!peek().isEmpty()) {
                if (!peek().equals(kind == 0 ? "sit" : "cost")) {
                    throw at(1);
                }
                if (lines.size() == 16) {
                    throw at(3);
                }
                next++;
                ToIntFunction<Map<String, Integer>> sum = sum();
                ToIntFunction<Map<String, Integer>> when = takeIf("when") ? either() : null;
                take(";");
                lines.add(new Line(sum, when));
            }
            return lines;
        }

        private ToIntFunction<Map<String, Integer>> either() {
            ToIntFunction<Map<String, Integer>> all = both();
            while (takeIf("or")) {
                ToIntFunction<Map<String, Integer>> a = all;
                ToIntFunction<Map<String, Integer>> b = both();
                all = t -> a.applyAsInt(t) != 0 || b.applyAsInt(t) != 0 ? 1 : 0;
            }
            return all;
        }

        private ToIntFunction<Map<String, Integer>> both() {
            ToIntFunction<Map<String, Integer>> all = claim();
            while (takeIf("and")) {
                ToIntFunction<Map<String, Integer>> a = all;
                ToIntFunction<Map<String, Integer>> b = claim();
                all = t -> a.applyAsInt(t) != 0 && b.applyAsInt(t) != 0 ? 1 : 0;
            }
            return all;
        }

        private ToIntFunction<Map<String, Integer>> claim() {
            if (peek().equals("(") || peek().equals("not")) {
                if (open == 8) {
                    throw at(3);
                }
                open++;
                ToIntFunction<Map<String, Integer>> inner;
                if (takeIf("not")) {
                    ToIntFunction<Map<String, Integer>> c = claim();
                    inner = t -> c.applyAsInt(t) == 0 ? 1 : 0;
                } else {
                    take("(");
                    inner = either();
                    take(")");
                }
                open--;
                return inner;
            }
            ToIntFunction<Map<String, Integer>> a = sum();
            String sign = peek();
            if (!sign.equals("<") && !sign.equals("=") && !sign.equals(">")) {
                throw at(1);
            }
            next++;
            ToIntFunction<Map<String, Integer>> b = sum();
            return t -> {
                int c = Integer.compare(a.applyAsInt(t), b.applyAsInt(t));
                return c < 0 && sign.equals("<") || c == 0 && sign.equals("=") || c > 0 && sign.equals(">") ? 1 : 0;
            };
        }

        private ToIntFunction<Map<String, Integer>> sum() {
            ToIntFunction<Map<String, Integer>> all = product();
            while (peek().equals("+") || peek().equals("-")) {
                boolean plus = tokens.get(next++).equals("+");
                ToIntFunction<Map<String, Integer>> a = all;
                ToIntFunction<Map<String, Integer>> b = product();
                all = t -> plus ? a.applyAsInt(t) + b.applyAsInt(t) : a.applyAsInt(t) - b.applyAsInt(t);
            }
            return all;
        }

        private ToIntFunction<Map<String, Integer>> product() {
            ToIntFunction<Map<String, Integer>> all = unit();
            while (peek().equals("*") || peek().equals("/")) {
                ToIntFunction<Map<String, Integer>> a = all;
                if (tokens.get(next++).equals("*")) {
                    ToIntFunction<Map<String, Integer>> b = unit();
                    all = t -> a.applyAsInt(t) * b.applyAsInt(t);
                } else {
                    int n = number();
                    if (n == 0) {
                        throw at(2);
                    }
                    next++;
                    all = t -> a.applyAsInt(t) / n;
                }
            }
            return all;
        }

        private static final Set<String> ANY = new HashSet<>(Arrays.asList("wide", "keep", "bag", "group", "hour"));
        private static final Set<String> SITS =
                new HashSet<>(Arrays.asList("at", "left", "right", "warm", "friends", "sitting"));

        private ToIntFunction<Map<String, Integer>> unit() {
            String token = peek();
            if (ANY.contains(token) || kind == 0 && SITS.contains(token) || kind == 1 && token.equals("moved")) {
                next++;
                return t -> t.get(token);
            }
            int n = number();
            next++;
            return t -> n;
        }

        List<DayLine> day() {
            List<DayLine> lines = new ArrayList<>();
            while (!peek().isEmpty()) {
                String act = peek();
                if (!act.equals("come") && !act.equals("go") && !act.equals("beg")) {
                    throw at(1);
                }
                if (lines.size() == 24) {
                    throw at(3);
                }
                next++;
                int person = number();
                if (person >= people) {
                    throw at(2);
                }
                next++;
                take("at");
                int hour = number();
                if (hour > 999) {
                    throw at(2);
                }
                next++;
                take(";");
                lines.add(new DayLine(act, person, hour));
            }
            return lines;
        }
    }

    // ---- looking

    int of(int person, int what) {
        if (person < 0 || person >= state.people.size() || what < 0 || what > 6) {
            return NONE - 1;
        }
        Person p = state.people.get(person);
        if (what < 5) {
            return p.told[what];
        }
        return what == 5 ? p.at : state.seated().indexOf(p);
    }

    int at(int inch, int what) {
        if (inch < 0 || inch >= state.length || what < 0 || what > 2) {
            return NONE - 1;
        }
        if (what == 1) {
            return state.warm.getOrDefault(inch, NONE);
        }
        if (what == 2) {
            return state.rests.contains(inch) ? 1 : 0;
        }
        for (Person p : state.seated()) {
            if (inch >= p.at && inch < p.at + p.takes()) {
                return p.number;
            }
        }
        return NONE;
    }

    int tells(int person, int inch) {
        Person p = state.stander(person);
        return p == null || !hasPlace(state, p, inch) ? NONE - 999999 : told(state, p, inch);
    }

    int book(int i, int what) {
        return i < 0 || i >= state.book.size() || what < 0 || what > 3 ? NONE - 1 : state.book.get(i)[what];
    }

    boolean undo() {
        if (past.isEmpty()) {
            return false;
        }
        State back = past.remove(past.size() - 1);
        back.sitting = state.sitting;
        back.moving = state.moving;
        state = back;
        return true;
    }

    boolean image(boolean taken) {
        if (taken) {
            image = state.copy();
            return true;
        }
        if (image == null) {
            return false;
        }
        state = image.copy();
        past.clear();
        return true;
    }

    int look(int what) {
        List<Person> seated = state.seated();
        switch (what) {
            case 0: return state.length;
            case 1: return state.people.size();
            case 2: return seated.size();
            case 3: return state.hour;
            case 4: return state.book.size();
            case 5: return state.sitting.size();
            case 6: return state.moving.size();
            case 7: return state.day.size();
            case 8: return past.size();
            case 9: {
                int free = 0;
                for (int i = 0; i < state.length; i++) {
                    free += at(i, 0) == NONE ? 1 : 0;
                }
                return free;
            }
            case 10: return state.rests.size();
            default: return what >= 20 && what - 20 < seated.size() ? seated.get(what - 20).number : NONE;
        }
    }

    // ---- in thought

    /** cost, how many are moved, the asker's inch, then the inch of each PERSON; null without ROOM. */
    static int[] room(State s, Person asker) {
        List<Person> seated = s.seated();
        int[] best = null;
        List<Person> bestLine = null;
        for (int gap = 0; gap <= seated.size(); gap++) {
            List<Person> line = new ArrayList<>(seated);
            line.add(gap, asker);
            int[] found = place(s, line, asker, 0, 0, new HashMap<>());
            if (found != null && (best == null || found[0] < best[0] || found[0] == best[0] && found[1] < best[1])) {
                best = found;
                bestLine = line;
            }
        }
        if (best == null) {
            return null;
        }
        int[] answer = new int[3 + s.people.size()];
        Arrays.fill(answer, NONE);
        answer[0] = best[0];
        answer[1] = best[1];
        for (int i = 0; i < bestLine.size(); i++) {
            answer[3 + bestLine.get(i).number] = best[2 + i];
        }
        answer[2] = answer[3 + asker.number];
        return answer;
    }

    // cost, moved, and the inches of those of the line from the i-th on
    private static int[] place(State s, List<Person> line, Person asker, int i, int from, Map<Integer, int[]> known) {
        if (i == line.size()) {
            return new int[2];
        }
        int key = i * 1000 + from;
        if (known.containsKey(key)) {
            return known.get(key);
        }
        Person p = line.get(i);
        int[] best = null;
        for (int inch = from; inch < s.length; inch++) {
            boolean moves = p != asker && inch != p.at;
            if (!fits(s, p, inch) || moves && p.told[4] == 0) {
                continue;
            }
            int behind = inch + p.takes() + (i + 1 < line.size() ? apart(p, line.get(i + 1)) : 0);
            int[] others = place(s, line, asker, i + 1, behind, known);
            if (others == null) {
                continue;
            }
            int[] all = new int[others.length + 1];
            System.arraycopy(others, 2, all, 3, others.length - 2);
            all[0] = others[0];
            all[1] = others[1];
            all[2] = inch;
            if (moves) {
                Map<String, Integer> terms = termsOf(s, p);
                terms.put("moved", Math.abs(inch - p.at));
                all[0] += Math.max(0, Math.min(999, value(s.moving, terms, Math.abs(inch - p.at))));
                all[1]++;
            }
            if (best == null || Arrays.compare(all, best) < 0) {
                best = all;
            }
        }
        known.put(key, best);
        return best;
    }

    int room(int person, int what) {
        Person p = state.stander(person);
        int[] room = p == null ? null : room(state, p);
        if (room == null) {
            return NONE;
        }
        if (what >= 0 && what <= 2) {
            return room[what];
        }
        return what >= 10 && state.sitter(what - 10) != null ? room[3 + what - 10] : NONE;
    }

    int rise(int person, int what) {
        Person p = state.stander(person);
        int who = NONE;
        int least = NONE;
        for (int i = 0; p != null && i < state.people.size(); i++) {
            if (state.sitter(i) == null) {
                continue;
            }
            State s = state.copy();
            s.people.get(i).at = NONE;
            int[] room = room(s, s.people.get(person));
            if (room != null && (who == NONE || room[0] < least)) {
                who = i;
                least = room[0];
            }
        }
        return what == 0 ? who : what == 1 ? least : NONE;
    }

    static Person alike(int w, int k) {
        Person p = new Person();
        p.told = new int[] {w, k, 0, 0, 0};
        return p;
    }

    // fewest, most, mean of a free stretch; the bounds are kept already
    private static int[] stretch(State s, int w, int k, int from, int to, Map<Integer, int[]> known) {
        int key = from * 1000 + to;
        int[] found = known.get(key);
        if (from + w > to) {
            return new int[3];
        }
        if (found != null) {
            return found;
        }
        int places = 0;
        int[] all = {1000, 0, 0};
        for (int inch = from; inch + w <= to; inch++) {
            if (!fits(s, alike(w, k), inch)) {
                continue;
            }
            int[] left = stretch(s, w, k, from, inch - k, known);
            int[] right = stretch(s, w, k, inch + w + k, to, known);
            places++;
            all[0] = Math.min(all[0], 1 + left[0] + right[0]);
            all[1] = Math.max(all[1], 1 + left[1] + right[1]);
            all[2] += 1000 + left[2] + right[2];
        }
        if (places == 0) {
            all = new int[3];
        } else {
            all[2] /= places;
        }
        known.put(key, all);
        return all;
    }

    static int[] fill(State s, int w, int k) {
        int[] sum = new int[4];
        Map<Integer, int[]> known = new HashMap<>();
        List<Person> seated = s.seated();
        Person one = alike(w, k);
        for (int gap = 0; gap <= seated.size(); gap++) {
            int from = 0;
            int to = s.length;
            if (gap > 0) {
                Person left = seated.get(gap - 1);
                from = left.at + left.takes() + apart(left, one);
            }
            if (gap < seated.size()) {
                to = seated.get(gap).at - apart(seated.get(gap), one);
            }
            int[] part = stretch(s, w, k, from, to, known);
            for (int i = 0; i < 3; i++) {
                sum[i] += part[i];
            }
        }
        return sum;
    }

    int fill(int w, int k, int what) {
        if (!can(0, w) || !can(1, k) || what < 0 || what > 3) {
            return NONE;
        }
        if (what < 3) {
            return fill(state, w, k)[what];
        }
        State s = state.copy();
        int count = 0;
        while (true) {
            Person p = alike(w, k);
            p.at = best(s, p);
            if (p.at == NONE) {
                return count;
            }
            s.people.add(p);
            count++;
        }
    }

    int bestRest(int w, int k) {
        if (!can(0, w) || !can(1, k)) {
            return NONE;
        }
        int best = 0;
        int greatest = NONE;
        for (int rest = 0; rest < state.length; rest++) {
            State s = new State();
            s.length = state.length;
            if (rest > 0) {
                s.rests.add(rest);
            }
            int fewest = fill(s, w, k)[0];
            if (fewest > greatest) {
                greatest = fewest;
                best = rest;
            }
        }
        return best;
    }

    int block(int person, int w, int k) {
        if (!can(0, w) || !can(1, k) || state.stander(person) == null) {
            return NONE;
        }
        int best = NONE;
        int least = NONE;
        for (int inch = 0; inch < state.length; inch++) {
            State s = state.copy();
            if (!hasPlace(s, s.people.get(person), inch)) {
                continue;
            }
            s.people.get(person).at = inch;
            int most = fill(s, w, k)[1];
            if (best == NONE || most < least) {
                best = inch;
                least = most;
            }
        }
        return best;
    }

    int orders(int what) {
        if (state.seated().size() > 8) {
            return NONE;
        }
        State s = state.copy();
        for (Person p : s.people) {
            p.at = NONE;
        }
        List<int[]> first = new ArrayList<>();
        int count = arrive(s, new ArrayList<>(), first);
        if (what == 0) {
            return count;
        }
        return what < 10 || first.isEmpty() || what - 10 >= first.get(0).length ? NONE : first.get(0)[what - 10];
    }

    private int arrive(State s, List<Integer> order, List<int[]> first) {
        if (order.size() == state.seated().size()) {
            if (first.isEmpty()) {
                first.add(order.stream().mapToInt(i -> i).toArray());
            }
            return 1;
        }
        int count = 0;
        for (Person p : s.people) {
            int due = state.people.get(p.number).at;
            if (due == NONE || p.at != NONE || best(s, p) != due) {
                continue;
            }
            p.at = due;
            order.add(p.number);
            count += arrive(s, order, first);
            order.remove(order.size() - 1);
            p.at = NONE;
        }
        return count;
    }

    int gives(int w, int k) {
        if (!can(0, w) || !can(1, k)) {
            return NONE;
        }
        int best = NONE;
        int greatest = NONE;
        for (int i = 0; i < state.people.size(); i++) {
            if (state.sitter(i) == null) {
                continue;
            }
            State s = state.copy();
            s.people.get(i).at = NONE;
            int most = fill(s, w, k)[1];
            if (most > greatest) {
                greatest = most;
                best = i;
            }
        }
        return best;
    }

    int stands(int what) {
        State s = state.copy();
        stood = 0;
        firstStood = NONE;
        while (s.hour < 1000) {
            anHour(s);
        }
        return what == 0 ? stood : what == 1 ? firstStood : NONE;
    }
}
