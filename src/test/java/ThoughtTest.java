import java.util.ArrayList;
import java.util.Arrays;
import java.util.List;
import java.util.Random;

/**
 * What is told IN THOUGHT is what comes of it when it is done: each such answer is compared with what the object's own
 * ACTS lead to, or with all that can be, one by one. Scenes are made by chance (the same each time), and made anew for
 * each trial, so that no object is used for more than its 512 calls.
 */
public final class ThoughtTest {
    private static final int NONE = -1;
    private static final int NO_PLACE = NONE - 999999;
    private static final String[] SITTING = {"", "sit at;", "sit left*right;", "sit warm*3-friends+right;", "sit 0-warm;", "sit warm;",
        "sit 5 when at>3 and not at=6;sit left-right when sitting<2 or wide>2;", "sit friends*9+group-at/2;"};
    private static final String[] MOVING = {"", "cost 1;", "cost moved*wide;", "cost 5 when moved>1;cost keep+1;"};
    private static int wrong = 0;
    private static int count = 0;

    private final long seed;
    private final String[] told = new String[3];
    private int length;
    private int people;
    private MoveUp now;
    private int[][] of;
    private int[][] at;

    private ThoughtTest(long seed) {
        this.seed = seed;
    }

    public static void main(String[] args) {
        int scenes = args.length > 0 ? Integer.parseInt(args[0]) : 400;
        for (long seed = 1; seed <= scenes && wrong < 5; seed++) {
            new ThoughtTest(seed).all();
        }
        System.out.println(wrong == 0 ? count + " thoughts came about" : wrong + " thoughts did not come about");
        if (wrong != 0) {
            System.exit(1);
        }
    }

    private void due(int promise, String call, int got, int want) {
        count++;
        if (got != want) {
            wrong++;
            System.out.println("promise " + promise + ", scene " + seed + ": " + call + " answered " + got
                + ", done it is " + want);
        }
    }

    // ---- a scene: always the same for its seed

    private MoveUp scene() {
        Random chance = new Random(seed);
        MoveUp x = new MoveUp();
        length = 4 + chance.nextInt(8);
        people = 3 + chance.nextInt(3);
        x.bench(length);
        for (int p = 0; p < people; p++) {
            x.person(1 + chance.nextInt(3), chance.nextInt(3), chance.nextInt(4) / 3, chance.nextInt(3),
                chance.nextInt(4) > 0 ? 1 : 0);
        }
        for (int i = chance.nextInt(3); i > 0; i--) {
            x.rest(1 + chance.nextInt(length), true);
        }
        tell(x, 0, SITTING[chance.nextInt(SITTING.length)]);
        tell(x, 1, MOVING[chance.nextInt(MOVING.length)]);
        for (int i = 2 + chance.nextInt(5); i > 0; i--) {
            if (chance.nextInt(4) > 0) {
                x.come(chance.nextInt(people));
            } else {
                x.go(chance.nextInt(people));
            }
            x.hours(1 + chance.nextInt(chance.nextInt(4) == 0 ? 12 : 2));
        }
        StringBuilder day = new StringBuilder();
        for (int i = chance.nextInt(12); i > 0; i--) {
            int act = chance.nextInt(4);
            day.append(act == 0 ? "go " : act == 1 ? "beg " : "come ").append(chance.nextInt(people));
            day.append(" at ").append(20 + 13 * chance.nextInt(3) + chance.nextInt(2)).append(';');
        }
        tell(x, 2, day.toString());
        return x;
    }

    private void tell(MoveUp x, int k, String text) {
        told[k] = text;
        Texts.tell(x, k, text);
    }

    private int comesTo(MoveUp x, int person, int inch) {
        Texts.tell(x, 0, "sit 1 when at=" + inch + ";");
        return x.come(person);
    }

    // what is looked at often, so that the object's calls are kept for what it tells IN THOUGHT
    private void lookAround() {
        MoveUp x = scene();
        of = new int[people][7];
        for (int p = 0; p < people; p++) {
            for (int what = 0; what < 7; what++) {
                of[p][what] = x.of(p, what);
            }
        }
        at = new int[length][3];
        for (int inch = 0; inch < length; inch++) {
            for (int what = 0; what < 3; what++) {
                at[inch][what] = x.at(inch, what);
            }
        }
    }

    private void all() {
        lookAround();
        for (int p = 0; p < people; p++) {
            now = scene();
            if (of[p][5] == NONE) {
                comes(p);
                begs(p);
                rooms(p);
                rises(p);
            } else {
                goesBack(p);
            }
        }
        for (int w = 1; w < 4; w++) {
            int k = (int) ((seed + w) % 3);
            now = scene();
            fills(w, k);
            fillsByLaw(w, k);
            rests(w, k);
            gives(w, k);
            blocks((int) (seed % people), w, k);
        }
        now = scene();
        orders();
        stands();
        image();
    }

    // ---- ACTS against what tells() and room() told ahead of them

    private void comes(int p) {
        int best = NONE;
        int most = 0;
        for (int inch = 0; inch < length; inch++) {
            int tells = now.tells(p, inch);
            MoveUp x = scene();
            due(16, "tells(" + p + ", " + inch + ") of a place", tells != NO_PLACE ? inch : NONE,
                comesTo(x, p, inch) == inch ? inch : NONE);
            if (tells != NO_PLACE && (best == NONE || tells > most)) {
                best = inch;
                most = tells;
            }
        }
        due(6, "come(" + p + ")", scene().come(p), best);
    }

    private void begs(int p) {
        MoveUp x = scene();
        due(8, "beg(" + p + ")", x.beg(p), now.room(p, 2));
        for (int q = 0; q < people; q++) {
            int was = of[q][5];
            due(18, "room(" + p + ", 10 + " + q + ")", now.room(p, 2) == NONE ? was : q == p ? now.room(p, 2)
                : now.room(p, 10 + q), x.of(q, 5));
        }
    }

    private void goesBack(int p) {
        MoveUp x = scene();
        x.go(p);
        x.undo();
        due(26, "all after go(" + p + ") and undo()", sum(x), sum(scene()));
    }

    // ---- ROOM against all that can be

    private void rooms(int p) {
        List<Integer> seated = new ArrayList<>();
        for (int i = 0; i < now.look(2); i++) {
            seated.add(now.look(20 + i));
        }
        int[] best = null;
        for (int gap = 0; gap <= seated.size(); gap++) {
            List<Integer> line = new ArrayList<>(seated);
            line.add(gap, p);
            best = tried(line, new int[line.size()], 0, gap, best);
        }
        due(18, "room(" + p + ", 0)", now.room(p, 0), best == null ? NONE : best[0]);
        due(18, "room(" + p + ", 1)", now.room(p, 1), best == null ? NONE : best[1]);
        due(18, "room(" + p + ", 2)", now.room(p, 2), best == null ? NONE : best[3 + p]);
        for (int q : seated) {
            due(18, "room(" + p + ", 10 + " + q + ")", now.room(p, 10 + q), best == null ? NONE : best[3 + q]);
        }
    }

    // cost, how many are moved, the gap, the inch of each PERSON: the least, of several the first that is tried
    private int[] tried(List<Integer> line, int[] inches, int i, int gap, int[] best) {
        if (i == line.size()) {
            int[] all = weighed(line, inches, gap);
            boolean better = best == null || all[0] < best[0] || all[0] == best[0] && all[1] < best[1];
            return better ? all : best;
        }
        int[] least = best;
        for (int inch = 0; inch < length; inch++) {
            inches[i] = inch;
            if (mayBe(line, inches, i, gap)) {
                least = tried(line, inches, i + 1, gap, least);
            }
        }
        return least;
    }

    private boolean mayBe(List<Integer> line, int[] inches, int i, int gap) {
        int p = line.get(i);
        int inch = inches[i];
        if (inch + of[p][0] + of[p][2] > length || i != gap && of[p][4] == 0 && inch != of[p][5]) {
            return false;
        }
        for (int over = inch + 1; over < inch + of[p][0]; over++) {
            if (at[over][2] == 1) {
                return false;
            }
        }
        if (i == 0) {
            return true;
        }
        int q = line.get(i - 1);
        boolean friends = of[p][3] > 0 && of[p][3] == of[q][3];
        int apart = friends ? 0 : Math.max(of[p][1], of[q][1]);
        return inch >= inches[i - 1] + of[q][0] + of[q][2] + apart;
    }

    private int[] weighed(List<Integer> line, int[] inches, int gap) {
        int[] all = new int[3 + people];
        Arrays.fill(all, 3, all.length, NONE);
        all[2] = gap;
        for (int i = 0; i < line.size(); i++) {
            int p = line.get(i);
            all[3 + p] = inches[i];
            int by = Math.abs(inches[i] - of[p][5]);
            if (i != gap && by > 0) {
                all[0] += cost(p, by);
                all[1]++;
            }
        }
        return all;
    }

    private int cost(int p, int by) {
        switch (Arrays.asList(MOVING).indexOf(told[1])) {
            case 0: return by;
            case 1: return 1;
            case 2: return by * of[p][0];
            default: return by > 1 ? 5 : of[p][1] + 1;
        }
    }

    private void rises(int p) {
        int who = NONE;
        int least = NONE;
        for (int q = 0; q < people; q++) {
            MoveUp x = scene();
            if (x.go(q) && x.room(p, 0) != NONE && (who == NONE || x.room(p, 0) < least)) {
                who = q;
                least = x.room(p, 0);
            }
        }
        due(19, "rise(" + p + ", 0)", now.rise(p, 0), who);
        due(19, "rise(" + p + ", 1)", now.rise(p, 1), least);
    }

    // ---- FILL against all that can come about

    private void fills(int w, int k) {
        int[] fewestAndMost = {length + 1, NONE};
        boolean[] taken = new boolean[length];
        int[] keeps = new int[length];
        for (int i = 0; i < length; i++) {
            taken[i] = at[i][0] != NONE;
            keeps[i] = taken[i] ? of[at[i][0]][1] : 0;
        }
        fillOn(taken, keeps, w, k, 0, fewestAndMost);
        due(20, "fill(" + w + ", " + k + ", 0)", now.fill(w, k, 0), fewestAndMost[0]);
        due(20, "fill(" + w + ", " + k + ", 1)", now.fill(w, k, 1), fewestAndMost[1]);
    }

    private void fillOn(boolean[] taken, int[] keeps, int w, int k, int sit, int[] fewestAndMost) {
        boolean full = true;
        for (int inch = 0; inch + w <= length; inch++) {
            if (!isFree(taken, keeps, w, k, inch)) {
                continue;
            }
            full = false;
            boolean[] then = taken.clone();
            int[] thenKeeps = keeps.clone();
            Arrays.fill(then, inch, inch + w, true);
            Arrays.fill(thenKeeps, inch, inch + w, k);
            fillOn(then, thenKeeps, w, k, sit + 1, fewestAndMost);
        }
        if (full) {
            fewestAndMost[0] = Math.min(fewestAndMost[0], sit);
            fewestAndMost[1] = Math.max(fewestAndMost[1], sit);
        }
    }

    private boolean isFree(boolean[] taken, int[] keeps, int w, int k, int inch) {
        for (int i = inch; i < inch + w; i++) {
            if (taken[i] || i > inch && at[i][2] == 1) {
                return false;
            }
        }
        int left = inch - 1;
        while (left >= 0 && !taken[left]) {
            left--;
        }
        int right = inch + w;
        while (right < length && !taken[right]) {
            right++;
        }
        return (left < 0 || inch - 1 - left >= Math.max(k, keeps[left]))
            && (right == length || right - inch - w >= Math.max(k, keeps[right]));
    }

    private void fillsByLaw(int w, int k) {
        MoveUp x = scene();
        int sit = 0;
        int one = x.person(w, k, 0, 0, 1);
        while (one != NONE && x.come(one) != NONE) {
            sit++;
            one = x.person(w, k, 0, 0, 1);
        }
        if (one != NONE) {
            due(20, "fill(" + w + ", " + k + ", 3)", now.fill(w, k, 3), sit);
        }
    }

    private void rests(int w, int k) {
        int best = 0;
        int greatest = NONE;
        for (int rest = 0; rest < length; rest++) {
            MoveUp x = new MoveUp();
            x.bench(length);
            x.rest(rest, true);
            if (x.fill(w, k, 0) > greatest) {
                greatest = x.fill(w, k, 0);
                best = rest;
            }
        }
        due(21, "bestRest(" + w + ", " + k + ")", now.bestRest(w, k), best);
    }

    private void gives(int w, int k) {
        int best = NONE;
        int greatest = NONE;
        for (int p = 0; p < people; p++) {
            MoveUp x = scene();
            if (x.go(p) && x.fill(w, k, 1) > greatest) {
                greatest = x.fill(w, k, 1);
                best = p;
            }
        }
        due(24, "gives(" + w + ", " + k + ")", now.gives(w, k), best);
    }

    private void blocks(int p, int w, int k) {
        int best = NONE;
        int least = length + 1;
        for (int inch = 0; inch < length; inch++) {
            MoveUp x = scene();
            if (comesTo(x, p, inch) == inch && x.fill(w, k, 1) < least) {
                least = x.fill(w, k, 1);
                best = inch;
            }
        }
        due(22, "block(" + p + ", " + w + ", " + k + ")", now.block(p, w, k), best);
    }

    // ---- ORDERS, DAY's STANDS, THE IMAGE

    private void orders() {
        List<Integer> who = new ArrayList<>();
        for (int p = 0; p < people; p++) {
            if (of[p][5] != NONE) {
                who.add(p);
            }
        }
        List<List<Integer>> found = new ArrayList<>();
        order(who, new ArrayList<>(), found);
        due(23, "orders(0)", now.orders(0), found.size());
        for (int i = 0; i <= who.size(); i++) {
            due(23, "orders(10 + " + i + ")", now.orders(10 + i),
                found.isEmpty() || i == who.size() ? NONE : found.get(0).get(i));
        }
    }

    private void order(List<Integer> who, List<Integer> order, List<List<Integer>> found) {
        MoveUp x = scene();
        for (int p : who) {
            x.go(p);
        }
        for (int p : order) {
            if (x.come(p) != of[p][5]) {
                return;
            }
        }
        if (order.size() == who.size()) {
            found.add(new ArrayList<>(order));
            return;
        }
        for (int p : who) {
            if (!order.contains(p)) {
                order.add(p);
                order(who, order, found);
                order.remove(order.size() - 1);
            }
        }
    }

    private void stands() {
        MoveUp x = scene();
        int from = x.look(4);
        int left = 999 - x.look(3);
        int done = 0;
        for (; left > 0; left -= 60) {
            done += x.hours(Math.min(left, 60));
        }
        due(13, "lines of A DAY that were done", done, x.look(4) - from);
        int stand = 0;
        int first = NONE;
        for (int i = from; i < x.look(4); i++) {
            if (x.book(i, 2) == 1 || x.book(i, 2) == 4) {
                first = stand == 0 ? x.book(i, 0) : first;
                stand++;
            }
        }
        due(25, "stands(0)", now.stands(0), stand);
        due(25, "stands(1)", now.stands(1), first);
    }

    private void image() {
        MoveUp x = scene();
        int was = sum(x);
        x.image(true);
        x.hours(60);
        x.person(1, 1, 1, 1, 1);
        x.rest(1, x.at(1, 2) == 0);
        x.bench(3);
        x.image(false);
        due(27, "all after image(false)", sum(x), was);
        due(27, "what can be undone", x.look(8), 0);
        x.bench(50);
        x.image(false);
        due(27, "all, gone back to once more", sum(x), was);
    }

    // what can be seen, in one number, but what can be undone
    private int sum(MoveUp x) {
        int sum = 0;
        for (int what = 0; what <= 10; what++) {
            sum = sum * 31 + (what == 8 ? 0 : x.look(what));
        }
        for (int p = 0; p < people; p++) {
            for (int what = 0; what <= 6; what++) {
                sum = sum * 31 + x.of(p, what);
            }
        }
        for (int inch = 0; inch < length; inch++) {
            for (int what = 0; what <= 2; what++) {
                sum = sum * 31 + x.at(inch, what);
            }
        }
        for (int i = 0; i < x.look(4); i++) {
            for (int what = 0; what <= 3; what++) {
                sum = sum * 31 + x.book(i, what);
            }
        }
        return sum * 31 + x.stands(0) * 31 + x.stands(1);
    }
}
