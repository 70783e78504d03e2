import java.util.Random;

/** Runs of calls made by chance (the same ones each time), each answer compared with the Model's. */
public final class ModelTest {
    private final Random chance;
    private final Texts texts;
    private final MoveUp x = new MoveUp();
    private final Model m = new Model();
    private final StringBuilder calls = new StringBuilder();
    private int wrong = 0;
    private int count = 0;
    private int widest = 8;
    private int longest = 30;
    private int keepest = 4;
    private boolean crowded;

    private ModelTest(long seed) {
        chance = new Random(seed);
        texts = new Texts(chance);
    }

    public static void main(String[] args) {
        int runs = args.length > 0 ? Integer.parseInt(args[0]) : 1500;
        long first = args.length > 1 ? Long.parseLong(args[1]) : 1;
        int bad = 0;
        for (long seed = first; seed < first + runs && bad < 5; seed++) {
            if (!new ModelTest(seed).run(seed)) {
                bad++;
            }
        }
        System.out.println(bad == 0 ? runs + " runs are as the model has them" : bad + " runs are not as the model has them");
        if (bad != 0) {
            System.exit(1);
        }
    }

    private boolean run(long seed) {
        crowded = chance.nextInt(3) > 0;
        widest = crowded ? 1 + chance.nextInt(5) : chance.nextInt(4) == 0 ? 20 : 2 + chance.nextInt(7);
        keepest = crowded ? chance.nextInt(3) : chance.nextInt(4) == 0 ? 15 : chance.nextInt(4);
        longest = chance.nextInt(3) == 0 ? 60 : 10 + chance.nextInt(30);
        int length = crowded ? 8 + chance.nextInt(24) : 1 + chance.nextInt(longest);
        due("bench(" + length + ")", x.bench(length), m.bench(length));
        for (int i = crowded ? 5 + chance.nextInt(6) : 2 + chance.nextInt(7); i > 0; i--) {
            person();
        }
        int steps = 150 + chance.nextInt(350);
        if (chance.nextInt(3) == 0) {
            gaps();
        }
        while (count < steps && wrong == 0) {
            step();
        }
        if (wrong > 0) {
            System.out.println("seed " + seed + ", the calls:" + calls);
        }
        return wrong == 0;
    }

    private void due(String call, int got, int want) {
        count++;
        if (calls.length() < 40000) {
            calls.append("\n  ").append(call).append(" -> ").append(got);
        }
        if (got != want) {
            wrong++;
            System.out.println(call + " answered " + got + ", the model has " + want);
        }
    }

    private void due(String call, boolean got, boolean want) {
        due(call, got ? 1 : 0, want ? 1 : 0);
    }

    private int pick(int... of) {
        return of[chance.nextInt(of.length)];
    }

    private int who() {
        return chance.nextInt(40) == 0 ? pick(-1, 10, 11, Integer.MAX_VALUE, Integer.MIN_VALUE)
            : chance.nextInt(Math.max(1, m.state.people.size()));
    }

    private int inch() {
        return chance.nextInt(40) == 0 ? pick(-1, 60, 61, Integer.MAX_VALUE, Integer.MIN_VALUE)
            : chance.nextInt(m.state.length + 1);
    }

    private int what(int most) {
        return chance.nextInt(30) == 0 ? pick(-1, most + 1, 9, 10, 20, Integer.MAX_VALUE, Integer.MIN_VALUE)
            : chance.nextInt(most + 1);
    }

    private int wide() {
        return chance.nextInt(40) == 0 ? pick(0, -1, 21, Integer.MAX_VALUE) : 1 + chance.nextInt(widest);
    }

    private int keep() {
        return chance.nextInt(40) == 0 ? pick(-1, 16, Integer.MAX_VALUE) : chance.nextInt(keepest + 1);
    }

    private void person() {
        int w = wide();
        int k = keep();
        int b = chance.nextInt(40) == 0 ? pick(-1, 11) : chance.nextInt(2) * chance.nextInt(4);
        int g = chance.nextInt(40) == 0 ? pick(-1, 10) : chance.nextInt(3);
        int v = chance.nextInt(40) == 0 ? pick(-1, 2) : chance.nextInt(5) == 0 ? 0 : 1;
        due("person(" + w + ", " + k + ", " + b + ", " + g + ", " + v + ")", x.person(w, k, b, g, v), m.person(w, k, b, g, v));
    }

    // narrow ones with gaps between them, then wider ones who come only if the others move up
    private void gaps() {
        int length = 6 + chance.nextInt(18);
        due("bench(" + length + ")", x.bench(length), m.bench(length));
        int narrow = 2 + chance.nextInt(5);
        int taken = 0;
        for (int i = 0; i < narrow && taken < length - 2; i++) {
            int w = 1 + chance.nextInt(2);
            int k = chance.nextInt(6) == 0 ? 1 : 0;
            int b = chance.nextInt(6) == 0 ? 1 : 0;
            int v = chance.nextInt(8) == 0 ? 0 : 1;
            int g = chance.nextInt(3);
            taken += w + b;
            due("person(" + w + ", " + k + ", " + b + ", " + g + ", " + v + ")", x.person(w, k, b, g, v), m.person(w, k, b, g, v));
        }
        String[] costs = {"", "", "cost 1;", "cost 3*moved when wide>1;", "cost 40-moved;", "cost 0;", "cost moved-2;",
            "cost 1 when moved=1;cost 5;", "cost 2*moved when group=1;cost moved*moved;", "cost moved*600;", texts.text(1)};
        tellBoth(1, costs[chance.nextInt(costs.length)]);
        for (int i = chance.nextInt(3); i > 0; i--) {
            int r = inch();
            due("rest(" + r + ", true)", x.rest(r, true), m.rest(r, true));
        }
        for (int p = 0; p < m.state.people.size(); p++) {
            tellBoth(0, "sit 1 when at=" + chance.nextInt(length) + ";");
            due("come(" + p + ")", x.come(p), m.come(p));
        }
        for (int i = 0; i < 2; i++) {
            int w = Math.max(1, Math.min(20, length - taken - chance.nextInt(3)));
            int k = chance.nextInt(4) == 0 ? 1 : 0;
            int p = m.state.people.size();
            due("person(" + w + ", " + k + ", 0, 1, 1)", x.person(w, k, 0, 1, 1), m.person(w, k, 0, 1, 1));
            taken += chance.nextInt(3);
            for (int a = 0; a < 20; a++) {
                due("room(" + p + ", " + a + ")", x.room(p, a), m.room(p, a));
            }
            for (int a = 0; a < 2; a++) {
                due("rise(" + p + ", " + a + ")", x.rise(p, a), m.rise(p, a));
            }
        }
        tellBoth(2, texts.day());
        for (int a = 0; a < 2; a++) {
            due("stands(" + a + ")", x.stands(a), m.stands(a));
        }
    }

    private void tellBoth(int k, String text) {
        Texts.put(x, text);
        m.end(0);
        for (int i = 0; i < text.length(); i += 20) {
            m.feed(Texts.twenty(text, i));
        }
        m.end(text.length());
        due("text(" + k + ") of <" + text + ">", x.text(k), m.text(k));
    }

    // people strewn over the bench: room between them, but seldom enough for one more without moving
    private void strew() {
        int n = chance.nextInt(60);
        String[] laws = {"sit left*right;", "sit 0-at;", "sit at;", "sit 9 when at=" + n + ";sit right;",
            "sit warm-friends*2+left;", "sit left-right when left>right;sit right-left;", "sit 0-left*left when sitting<4;",
            "sit at*" + n + "/7*at;", "sit 5 when left=2;sit 4 when left=1 or left=3;", ""};
        String law = laws[chance.nextInt(laws.length)];
        tellBoth(0, law);
        int p = who();
        due("come(" + p + ") by " + law, x.come(p), m.come(p));
    }

    private void step() {
        if (crowded && chance.nextInt(5) == 0) {
            strew();
            return;
        }
        int kind = chance.nextInt(100);
        if (kind >= 27 && kind < 52 && crowded && chance.nextInt(3) > 0) {
            kind = 60;
        }
        if (kind < 38) {
            act(kind);
        } else if (kind < 52) {
            tell(kind);
        } else {
            think();
        }
        if (chance.nextInt(6) == 0) {
            lookAll();
        }
    }

    private void act(int kind) {
        int p = who();
        if (kind < 16) {
            due("come(" + p + ")", x.come(p), m.come(p));
        } else if (kind < 21) {
            due("beg(" + p + ")", x.beg(p), m.beg(p));
        } else if (kind < 27) {
            due("go(" + p + ")", x.go(p), m.go(p));
        } else if (kind < 32) {
            int n = chance.nextInt(8) == 0 ? pick(0, 61, 60, 59, -1, Integer.MAX_VALUE) : 1 + chance.nextInt(5);
            due("hours(" + n + ")", x.hours(n), m.hours(n));
        } else {
            due("undo()", x.undo(), m.undo());
        }
    }

    private void tell(int kind) {
        if (kind < 40) {
            int i = inch();
            boolean there = chance.nextInt(3) > 0;
            due("rest(" + i + ", " + there + ")", x.rest(i, there), m.rest(i, there));
        } else if (kind < 42) {
            int a = what(4);
            int p = who();
            int v = chance.nextInt(4);
            due("set(" + a + ", " + p + ", " + v + ")", x.set(a, p, v), m.set(a, p, v));
        } else if (kind < 44) {
            person();
        } else if (kind < 45) {
            boolean taken = chance.nextInt(3) > 0;
            due("image(" + taken + ")", x.image(taken), m.image(taken));
        } else if (kind < 46 && chance.nextInt(3) == 0) {
            int length = 1 + chance.nextInt(longest);
            due("bench(" + length + ")", x.bench(length), m.bench(length));
            for (int i = 3; i > 0; i--) {
                person();
            }
        } else {
            text();
        }
    }

    private void text() {
        int k = chance.nextInt(30) == 0 ? pick(-1, 3) : chance.nextInt(3);
        String text = texts.text(Math.min(Math.max(k, 0), 2));
        for (int i = 0; i < text.length(); i += 20) {
            int[] n = Texts.twenty(text, i);
            due("feed()", x.feed(n[0], n[1], n[2], n[3], n[4]), m.feed(n));
        }
        int n = chance.nextInt(30) == 0 ? pick(-1, 401) : text.length();
        due("end(" + n + ")", x.end(n), m.end(n));
        if (chance.nextInt(30) > 0) {
            due("text(" + k + ") of <" + text + ">", x.text(k), m.text(k));
        }
        for (int i = -1; i <= 2; i++) {
            due("fault(" + i + ")", x.fault(i), m.fault(i));
        }
    }

    private void think() {
        int p = who();
        int w = wide();
        int k = keep();
        switch (chance.nextInt(9)) {
            case 0: {
                int i = inch();
                due("tells(" + p + ", " + i + ")", x.tells(p, i), m.tells(p, i));
                break;
            }
            case 1:
                for (int a = -1; a < 21; a++) {
                    due("room(" + p + ", " + a + ")", x.room(p, a), m.room(p, a));
                }
                break;
            case 2:
                for (int a = -1; a < 3; a++) {
                    due("rise(" + p + ", " + a + ")", x.rise(p, a), m.rise(p, a));
                }
                break;
            case 3:
                for (int a = -1; a < 5; a++) {
                    due("fill(" + w + ", " + k + ", " + a + ")", x.fill(w, k, a), m.fill(w, k, a));
                }
                break;
            case 4: due("bestRest(" + w + ", " + k + ")", x.bestRest(w, k), m.bestRest(w, k)); break;
            case 5: due("block(" + p + ", " + w + ", " + k + ")", x.block(p, w, k), m.block(p, w, k)); break;
            case 6:
                if (m.orders(0) < 500) {
                    for (int a = 0; a < 20; a++) {
                        due("orders(" + a + ")", x.orders(a), m.orders(a));
                    }
                }
                break;
            case 7: due("gives(" + w + ", " + k + ")", x.gives(w, k), m.gives(w, k)); break;
            default:
                for (int a = -1; a < 3; a++) {
                    due("stands(" + a + ")", x.stands(a), m.stands(a));
                }
        }
    }

    private void lookAll() {
        for (int i = -1; i < 32; i++) {
            due("look(" + i + ")", x.look(i), m.look(i));
        }
        int p = who();
        for (int i = -1; i < 8; i++) {
            due("of(" + p + ", " + i + ")", x.of(p, i), m.of(p, i));
        }
        for (int i = 0; i < 4; i++) {
            int at = inch();
            int a = what(2);
            due("at(" + at + ", " + a + ")", x.at(at, a), m.at(at, a));
            int line = m.state.book.size() - chance.nextInt(4);
            int b = what(3);
            due("book(" + line + ", " + b + ")", x.book(line, b), m.book(line, b));
        }
    }
}
