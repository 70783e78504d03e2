/** THE BENCH with PEOPLE: promises 1 to 5, 14, 15 and 28, and what a place is (6). */
final class BenchEdges extends Edges {
    private static final int[] LEAST = {1, 0, 0, 0, 0};
    private static final int[] MOST = {20, 15, 10, 9, 1};

    private BenchEdges() {
    }

    static void all() {
        newObject();
        length();
        toldAnew();
        rests();
        people();
        set();
        places();
        apart();
        of();
        at();
        look();
    }

    private static void newObject() {
        edge(1, "A bench of forty inches.", () -> {
            MoveUp x = new MoveUp();
            due("LENGTH", x.look(0), 40);
            due("the last inch", x.at(39, 0), NONE);
            due("no inch", x.at(40, 0), NOTHING);
            due("free inches", x.look(9), 40);
        });
        edge(1, "`NONE = -1`: None.", () -> due("NONE", MoveUp.NONE, -1));
        edge(1, "(40 at first;", () -> {
            MoveUp x = new MoveUp();
            x.person(20, 0, 0, 0, 1);
            x.person(20, 0, 0, 0, 1);
            due("the first half", x.come(0), 0);
            due("the second half", x.come(1), 20);
        });
        edge(1, "ARM RESTS: inches 1 .. LENGTH - 1 (none at first)", () -> {
            MoveUp x = new MoveUp();
            due("ARM RESTS", x.look(10), 0);
            for (int i = 0; i < 40; i++) {
                due("one ahead of " + i, x.at(i, 2), 0);
            }
        });
        edge(1, "WARM of an inch: the HOUR in which it was last sat on (none at first).", () -> {
            MoveUp x = new MoveUp();
            for (int i = 0; i < 40; i++) {
                due("WARM of " + i, x.at(i, 1), NONE);
            }
        });
        edge(1, "HOUR 0 .. 999 (0 at first).", () -> due("HOUR", new MoveUp().look(3), 0));
        edge(1, "PEOPLE 0 .. 9 as they come into being", () -> {
            MoveUp x = new MoveUp();
            due("PEOPLE", x.look(1), 0);
            due("how many SIT", x.look(2), 0);
            due("who is the first", x.of(0, 0), NOTHING);
        });
        edge(1, "2. TEXTS (empty at first).", () -> {
            MoveUp x = new MoveUp();
            for (int k = 0; k < 3; k++) {
                due("lines of TEXT " + k, x.look(5 + k), 0);
            }
            due("the TAPE has not one byte", x.end(1), false);
            due("it has none", x.end(0), true);
        });
        edge(1, "THE BOOK (150 lines; no more then)", () -> {
            due("lines at first", new MoveUp().look(4), 0);
            due("the first one", new MoveUp().book(0, 0), NOTHING);
        });
        edge(1, "UNDO: true; false if there is nothing.", () -> {
            due("what can be undone at first", new MoveUp().look(8), 0);
            due("undo()", new MoveUp().undo(), false);
        });
        edge(1, "An object is used for at most 512 calls after it has been made", () -> {
            MoveUp x = new MoveUp();
            x.person(1, 0, 0, 0, 1);
            for (int i = 1; i < 256; i++) {
                due("come " + i, x.come(0), 0);
                due("go " + i, x.go(0), true);
            }
            due("the 512th call", x.come(0), 0);
        });
    }

    private static void length() {
        edge(2, "LENGTH 1 .. 60 inches", () -> {
            MoveUp x = new MoveUp();
            due("bench(0)", x.bench(0), false);
            due("LENGTH then", x.look(0), 40);
            due("bench(1)", x.bench(1), true);
            due("LENGTH", x.look(0), 1);
            due("its only inch", x.at(0, 0), NONE);
            due("behind it", x.at(1, 0), NOTHING);
            due("bench(60)", x.bench(60), true);
            due("LENGTH", x.look(0), 60);
            due("its last inch", x.at(59, 0), NONE);
            due("behind it", x.at(60, 0), NOTHING);
            due("bench(61)", x.bench(61), false);
            due("LENGTH then", x.look(0), 60);
            due("bench(2)", x.bench(2), true);
            due("bench(59)", x.bench(59), true);
        });
        edge(2, "LENGTH is told: true; false, and nothing is done, if it can't be.", () -> {
            MoveUp x = busy();
            leavesAll(x, () -> {
                for (int length : new int[] {0, -1, 61, 62, FAR, LOW}) {
                    due("bench(" + length + ")", x.bench(length), false);
                }
            });
            due("what can be undone still can", x.undo(), true);
        });
        edge(2, "A bench of forty inches.", () -> {
            MoveUp x = people(40, 1);
            x.come(0);
            due("as long as it was", x.bench(40), true);
            due("it is told anew all the same", x.look(1), 0);
        });
    }

    private static void toldAnew() {
        edge(2, "told anew: all is as at first but LENGTH", () -> {
            MoveUp x = busy();
            x.bench(9);
            due("LENGTH", x.look(0), 9);
            for (int what = 1; what <= 10; what++) {
                due("look(" + what + ")", x.look(what), what == 9 ? 9 : 0);
            }
            for (int i = 0; i < 9; i++) {
                due("who SITS at " + i, x.at(i, 0), NONE);
                due("WARM of " + i, x.at(i, 1), NONE);
                due("an ARM REST at " + i, x.at(i, 2), 0);
            }
            due("no such line", x.book(0, 0), NOTHING);
            due("no such PERSON", x.of(0, 0), NOTHING);
            due("nothing to undo", x.undo(), false);
            due("the first number again", x.person(5, 0, 0, 0, 1), 0);
            due("SITTING is empty", x.tells(0, 4), 0);
            due("no ARM REST is in his way", x.come(0), 0);
            x.person(5, 0, 0, 0, 1);
            x.person(4, 0, 0, 0, 1);
            x.go(0);
            seat(x, 0, 1);
            due("MOVING is empty", x.room(2, 0), 1);
            due("A DAY is empty", x.hours(9), 0);
        });
        edge(2, "all is as at first but LENGTH, the TAPE, fault() and THE IMAGE", () -> {
            MoveUp x = new MoveUp();
            Texts.put(x, "sit 7;");
            x.bench(8);
            due("the TAPE has six bytes", x.end(7), false);
            due("it has them", x.end(6), true);
            due("they are the same", x.text(0), 1);
            x.person(1, 0, 0, 0, 1);
            due("by the LAW", x.tells(0, 0), 7);
        });
        edge(2, "the TAPE, fault() and THE IMAGE)", () -> {
            MoveUp x = new MoveUp();
            Texts.tell(x, 0, "sit 1/0;");
            x.bench(8);
            due("the FAULT", x.fault(0), 2);
            due("its place", x.fault(1), 6);
        });
        edge(2, "but LENGTH, the TAPE, fault() and THE IMAGE)", () -> {
            MoveUp x = people(7, 3);
            due("there is no IMAGE", x.image(false), false);
            x.bench(8);
            due("and none then", x.image(false), false);
            x.image(true);
            x.bench(12);
            due("gone back", x.image(false), true);
            due("to that LENGTH", x.look(0), 8);
        });
    }

    private static void rests() {
        edge(3, "ARM RESTS: inches 1 .. LENGTH - 1", () -> {
            for (int length : new int[] {2, 3, 40, 60}) {
                MoveUp x = people(length);
                for (boolean there : new boolean[] {true, false}) {
                    due("at the left end", x.rest(0, there), false);
                    due("at the right end", x.rest(length, there), false);
                    due("the first", x.rest(1, there), true);
                    due("the last", x.rest(length - 1, there), true);
                    due("ARM RESTS", x.look(10), there ? Math.min(length - 1, 2) : 0);
                    for (int inch : new int[] {-1, 60, 61, FAR, LOW}) {
                        due("rest(" + inch + ")", x.rest(inch, there), false);
                    }
                }
            }
        });
        edge(3, "inches 1 .. LENGTH - 1", () -> {
            MoveUp x = people(1);
            due("one inch: no place for one", x.rest(1, true), false);
            due("nor ahead of it", x.rest(0, true), false);
            due("none", x.look(10), 0);
            x.bench(60);
            for (int i = 1; i < 60; i++) {
                x.rest(i, true);
            }
            due("everywhere", x.look(10), 59);
        });
        edge(3, "nobody sits over one: at < it < at and WIDE does not go.", () -> {
            MoveUp x = people(12, 3, 1);
            seat(x, 0, 4);
            due("at the left of what he takes", x.rest(4, true), true);
            due("the first over which he SITS", x.rest(5, true), false);
            due("the last over which he SITS", x.rest(6, true), false);
            due("at the right of what he takes", x.rest(7, true), true);
            x.rest(7, false);
            seat(x, 1, 7);
            due("one inch WIDE: left", x.rest(7, true), true);
            due("one inch WIDE: right", x.rest(8, true), true);
        });
        edge(3, "nobody sits over one: at < it < at and WIDE", () -> {
            MoveUp x = people(12, 3);
            x.rest(4, true);
            x.rest(7, true);
            due("up to the left one", x.tells(0, 1), 0);
            due("over the left one", x.tells(0, 2), NO_PLACE);
            due("over the left one still", x.tells(0, 3), NO_PLACE);
            due("between both", x.tells(0, 4), 0);
            due("over the right one", x.tells(0, 5), NO_PLACE);
            due("over the right one still", x.tells(0, 6), NO_PLACE);
            due("right of both", x.tells(0, 7), 0);
            due("up to the end", x.tells(0, 9), 0);
        });
        edge(3, "An ARM REST is there, or not: true; false if one can't be (over one who SITS).", () -> {
            MoveUp x = busy();
            leavesAll(x, () -> {
                due("over the one at 3", x.rest(4, true), false);
                due("over the one at 7", x.rest(8, true), false);
                due("at the end", x.rest(9, true), false);
                due("at the end, none", x.rest(9, false), false);
                due("at the beginning", x.rest(0, true), false);
            });
            due("what can be undone still can", x.undo(), true);
            x.go(0);
            due("he stands: now it can be", x.rest(4, true), true);
        });
        edge(3, "An ARM REST is there, or not: true;", () -> {
            MoveUp x = people(6);
            due("not there, and is not", x.rest(3, false), true);
            due("none", x.look(10), 0);
            due("there", x.rest(3, true), true);
            due("there, and is", x.rest(3, true), true);
            due("one", x.look(10), 1);
            due("not there", x.rest(3, false), true);
            due("none", x.look(10), 0);
        });
    }

    private static int person(MoveUp x, int what, int v) {
        int[] told = LEAST.clone();
        told[what] = v;
        return x.person(told[0], told[1], told[2], told[3], told[4]);
    }

    private static void range(String sentence, int what) {
        edge(4, sentence, () -> {
            MoveUp x = new MoveUp();
            for (int v : new int[] {LEAST[what] - 1, MOST[what] + 1, FAR, LOW}) {
                due("a new one with " + v, person(x, what, v), NONE);
            }
            due("PEOPLE", x.look(1), 0);
            due("a new one with the least", person(x, what, LEAST[what]), 0);
            due("a new one with the most", person(x, what, MOST[what]), 1);
            due("the least", x.of(0, what), LEAST[what]);
            due("the most", x.of(1, what), MOST[what]);
        });
        edge(5, sentence, () -> {
            MoveUp x = people(30, 5);
            due("to the most", x.set(what, 0, MOST[what]), true);
            for (int v : new int[] {LEAST[what] - 1, MOST[what] + 1, FAR, LOW}) {
                due("to " + v, x.set(what, 0, v), false);
            }
            due("the most", x.of(0, what), MOST[what]);
            due("to the least", x.set(what, 0, LEAST[what]), true);
            due("to less", x.set(what, 0, LEAST[what] - 1), false);
            due("the least", x.of(0, what), LEAST[what]);
        });
    }

    private static void people() {
        range("WIDE 1 .. 20", 0);
        range("KEEP 0 .. 15", 1);
        range("BAG 0 .. 10", 2);
        range("GROUP 0 .. 9", 3);
        range("MOVES 0, 1", 4);
        edge(4, "PEOPLE 0 .. 9 as they come into being", () -> {
            MoveUp x = new MoveUp();
            for (int i = 0; i < 10; i++) {
                due("PEOPLE", x.look(1), i);
                due("the number", x.person(i + 1, 0, 0, 0, 0), i);
            }
            for (int i = 0; i < 10; i++) {
                due("WIDE of " + i, x.of(i, 0), i + 1);
                due("he stands aside", x.of(i, 5), NONE);
            }
        });
        edge(4, "A PERSON: the number; NONE if one can't be, or there are ten.", () -> {
            MoveUp x = new MoveUp();
            for (int i = 0; i < 9; i++) {
                x.person(1, 0, 0, 0, 0);
            }
            due("one who can't be", x.person(0, 0, 0, 0, 0), NONE);
            due("the tenth", x.person(2, 0, 0, 0, 0), 9);
            due("the eleventh", x.person(3, 0, 0, 0, 0), NONE);
            due("PEOPLE", x.look(1), 10);
            due("the tenth stays", x.of(9, 0), 2);
            due("there is no eleventh", x.of(10, 0), NOTHING);
            x.bench(5);
            due("told anew: the first", x.person(1, 0, 0, 0, 0), 0);
        });
        edge(4, "NONE if one can't be, or there are ten.", () -> {
            MoveUp x = busy();
            leavesAll(x, () -> {
                due("too narrow", x.person(0, 0, 0, 0, 0), NONE);
                due("MOVES 2", x.person(1, 0, 0, 0, 2), NONE);
                due("all wrong", x.person(LOW, LOW, FAR, FAR, LOW), NONE);
            });
            due("what can be undone still can", x.undo(), true);
        });
        edge(4, "He stands aside, or SITS at an inch.", () -> {
            MoveUp x = people(3, 2);
            due("at first", x.of(0, 5), NONE);
            x.come(0);
            due("then", x.of(0, 5), 0);
            x.go(0);
            due("and again", x.of(0, 5), NONE);
        });
    }

    private static void set() {
        edge(5, "Of a PERSON who stands what 0 WIDE, 1 KEEP, 2 BAG, 3 GROUP", () -> {
            MoveUp x = people(9, 2, 2);
            x.come(0);
            for (int what = 0; what < 4; what++) {
                due("of one who SITS " + what, x.set(what, 0, 3), false);
                due("it stays", x.of(0, what), what == 0 ? 2 : 0);
                due("of one who stands " + what, x.set(what, 1, 3), true);
                due("it is told", x.of(1, what), 3);
            }
        });
        edge(5, "4 MOVES (also of one who SITS)", () -> {
            MoveUp x = people(9, 2, 2);
            x.come(0);
            for (int p = 0; p < 2; p++) {
                due("MOVES 0", x.set(4, p, 0), true);
                due("told", x.of(p, 4), 0);
                due("MOVES 2", x.set(4, p, 2), false);
                due("MOVES -1", x.set(4, p, -1), false);
                due("it stays", x.of(p, 4), 0);
                due("MOVES 1", x.set(4, p, 1), true);
                due("told", x.of(p, 4), 1);
            }
        });
        edge(5, "true; false if one can't be, or another what.", () -> {
            MoveUp x = busy();
            leavesAll(x, () -> {
                for (int what : new int[] {-1, 5, 6, FAR, LOW}) {
                    due("what " + what, x.set(what, 2, 1), false);
                }
                for (int what = 0; what < 5; what++) {
                    due("there is no 3", x.set(what, 3, 1), false);
                    due("there is no -1", x.set(what, -1, 1), false);
                    due("there is none so far", x.set(what, FAR, 1), false);
                    due("too much", x.set(what, 2, 21), false);
                }
                due("he SITS", x.set(0, 0, 1), false);
            });
            due("what can be undone still can", x.undo(), true);
        });
        edge(5, "MOVES 0, 1 (1: he moves, when asked).", () -> {
            MoveUp x = people(5, 1, 3);
            seat(x, 0, 2);
            due("1", x.room(1, 0), 1);
            x.set(4, 0, 0);
            due("0", x.room(1, 0), NONE);
        });
    }

    private static void places() {
        edge(6, "From where one SITS he takes WIDE and BAG inches.", () -> {
            MoveUp x = people(12, 2);
            x.set(2, 0, 3);
            seat(x, 0, 4);
            for (int i = 0; i < 12; i++) {
                due("who SITS at " + i, x.at(i, 0), i >= 4 && i <= 8 ? 0 : NONE);
            }
            due("free", x.look(9), 7);
        });
        edge(6, "BAG 0 .. 10 (inches right of him, which are taken as well)", () -> {
            MoveUp x = people(6, 1, 2);
            x.set(2, 0, 3);
            due("he comes", x.come(0), 0);
            due("not on his BAG", x.tells(1, 3), NO_PLACE);
            due("behind his BAG", x.tells(1, 4), 0);
            x.go(0);
            x.set(2, 0, 0);
            x.come(0);
            due("no BAG: behind him", x.tells(1, 1), 0);
        });
        edge(6, "One has a place at an inch, if all that he takes is on THE BENCH", () -> {
            MoveUp x = people(6, 4);
            due("the first inch", x.tells(0, 0), 0);
            due("ahead of it", x.tells(0, -1), NO_PLACE);
            due("the last", x.tells(0, 2), 0);
            due("beyond the end", x.tells(0, 3), NO_PLACE);
            x.set(2, 0, 1);
            due("with a BAG", x.tells(0, 1), 0);
            due("his BAG beyond the end", x.tells(0, 2), NO_PLACE);
            x.set(2, 0, 2);
            due("all of THE BENCH", x.come(0), 0);
            due("nothing is free", x.look(9), 0);
            x.go(0);
            x.set(2, 0, 3);
            due("more than all of it", x.come(0), NONE);
            x.set(2, 0, 0);
            x.set(0, 0, 6);
            due("as WIDE as it", x.come(0), 0);
            x.go(0);
            x.set(0, 0, 7);
            due("WIDER", x.come(0), NONE);
        });
        edge(6, "no ARM REST is under his WIDE", () -> {
            MoveUp x = people(6, 2);
            x.set(2, 0, 2);
            x.rest(3, true);
            due("under his BAG", x.tells(0, 0), 0);
            due("between him and his BAG", x.tells(0, 1), 0);
            due("under his WIDE", x.tells(0, 2), NO_PLACE);
            x.rest(3, false);
            x.rest(2, true);
            due("at his left", x.tells(0, 2), 0);
        });
        edge(6, "and all neighbours (left and right) are kept so.", () -> {
            MoveUp x = people(12, 2, 2, 3);
            x.set(1, 0, 2);
            x.set(1, 1, 1);
            seat(x, 0, 0);
            seat(x, 1, 8);
            due("too near to the left one", x.tells(2, 3), NO_PLACE);
            due("just between both", x.tells(2, 4), 0);
            due("too near to the right one", x.tells(2, 5), NO_PLACE);
            x.set(0, 2, 4);
            due("an inch too WIDE", x.come(2), NONE);
        });
        edge(6, "Two neighbours, by their places", () -> {
            MoveUp x = people(30, 1, 1, 1, 2);
            int[] keep = {1, 5, 3};
            int[] group = {1, 2, 3};
            for (int p = 0; p < 3; p++) {
                x.set(1, p, keep[p]);
                x.set(3, p, group[p]);
            }
            seat(x, 0, 29);
            seat(x, 1, 15);
            seat(x, 2, 5);
            int[][] free = {{0, 0}, {9, 8}, {21, 26}};
            for (int inch = 0; inch < 30; inch++) {
                boolean can = false;
                for (int[] f : free) {
                    can |= inch >= f[0] && inch <= f[1];
                }
                due("tells(3, " + inch + ")", x.tells(3, inch), can ? 0 : NO_PLACE);
            }
            for (int p = 0; p < 3; p++) {
                x.set(3, 3, group[p]);
                int at = x.of(p, 5);
                due("friends: just ahead of " + p, x.tells(3, at - 2), 0);
                due("friends: just behind " + p, x.tells(3, at + 1), p == 0 ? NO_PLACE : 0);
                due("the others are none", x.tells(3, p == 2 ? 14 : 6), NO_PLACE);
            }
        });
        edge(6, "all neighbours (left and right)", () -> {
            MoveUp x = people(5, 1, 1, 1);
            x.set(1, 0, 15);
            x.set(3, 0, 1);
            x.set(3, 1, 1);
            seat(x, 0, 0);
            seat(x, 1, 1);
            due("who is no neighbour need not be kept off", x.come(2), 2);
        });
    }

    /** Two so: the inches from the one who SITS at 20 with WIDE 2 and BAG 1 at which the other has a place. */
    private static void twoSo(int keep, int group, int hisKeep, int hisGroup, int apart) {
        MoveUp x = new MoveUp();
        x.bench(60);
        x.person(2, keep, 1, group, 1);
        x.person(3, hisKeep, 1, hisGroup, 1);
        seat(x, 0, 20);
        due("nearer on the right", x.tells(1, 23 + apart - 1), NO_PLACE);
        due("just so on the right", x.tells(1, 23 + apart), 0);
        due("nearer on the left", x.tells(1, 20 - apart - 4 + 1), NO_PLACE);
        due("just so on the left", x.tells(1, 20 - apart - 4), 0);
    }

    private static void apart() {
        edge(6, "between what the left one takes and the right one are the greater KEEP of both at least", () -> {
            twoSo(5, 0, 2, 0, 5);
            twoSo(2, 0, 5, 0, 5);
            twoSo(4, 0, 4, 0, 4);
            twoSo(0, 0, 1, 0, 1);
            twoSo(15, 0, 0, 0, 15);
            twoSo(0, 0, 15, 0, 15);
            twoSo(0, 0, 0, 0, 0);
        });
        edge(6, "0, if both are of one GROUP above 0.", () -> {
            twoSo(5, 1, 2, 1, 0);
            twoSo(2, 9, 15, 9, 0);
            twoSo(5, 1, 2, 2, 5);
            twoSo(5, 0, 2, 1, 5);
            twoSo(5, 1, 2, 0, 5);
        });
        edge(6, "GROUP 0 .. 9 (0: of none)", () -> twoSo(3, 0, 4, 0, 4));
    }

    private static void of() {
        edge(14, "5 the inch (NONE), 6 his place among those who SIT, from the left (NONE).", () -> {
            MoveUp x = people(6, 2, 2, 2);
            seat(x, 1, 4);
            due("the only one", x.of(1, 6), 0);
            seat(x, 0, 0);
            due("at the left end", x.of(0, 5), 0);
            due("the first", x.of(0, 6), 0);
            due("at the right end", x.of(1, 5), 4);
            due("the second", x.of(1, 6), 1);
            due("who stands", x.of(2, 5), NONE);
            due("who stands", x.of(2, 6), NONE);
            seat(x, 2, 2);
            due("all places taken: the last", x.of(1, 6), 2);
        });
        edge(14, "Of a PERSON what 0 WIDE, 1 KEEP, 2 BAG, 3 GROUP, 4 MOVES", () -> {
            MoveUp x = new MoveUp();
            x.person(1, 0, 0, 0, 0);
            x.person(20, 15, 10, 9, 1);
            for (int what = 0; what < 5; what++) {
                due("the least", x.of(0, what), LEAST[what]);
                due("the most", x.of(1, what), MOST[what]);
            }
        });
        edge(14, "NONE - 1 if there is none such, or another what.", () -> {
            MoveUp x = people(9, 2, 3);
            x.come(1);
            for (int what = 0; what <= 6; what++) {
                for (int p : new int[] {-1, 2, 10, FAR, LOW}) {
                    due("of(" + p + ", " + what + ")", x.of(p, what), NOTHING);
                }
                due("of(1, " + what + ")", x.of(1, what), new int[] {3, 0, 0, 0, 1, 0, 0}[what]);
            }
            for (int what : new int[] {-1, 7, FAR, LOW}) {
                due("what " + what, x.of(1, what), NOTHING);
            }
            leavesAll(x, () -> x.of(2, 7));
        });
    }

    private static void at() {
        edge(15, "Of an inch what 0 who SITS there (BAG, too; NONE)", () -> {
            MoveUp x = people(8, 2, 1);
            x.set(2, 1, 2);
            seat(x, 0, 1);
            seat(x, 1, 5);
            int[] who = {NONE, 0, 0, NONE, NONE, 1, 1, 1};
            for (int i = 0; i < 8; i++) {
                due("at(" + i + ", 0)", x.at(i, 0), who[i]);
            }
        });
        edge(15, "1 WARM (NONE)", () -> {
            MoveUp x = people(8, 2);
            seat(x, 0, 1);
            due("not yet", x.at(1, 1), NONE);
            x.hours(1);
            int[] warm = {NONE, 0, 0, NONE};
            for (int i = 0; i < 4; i++) {
                due("at(" + i + ", 1)", x.at(i, 1), warm[i]);
            }
        });
        edge(15, "2 1 if an ARM REST is ahead of it, else 0.", () -> {
            MoveUp x = people(5);
            x.rest(1, true);
            x.rest(4, true);
            int[] rests = {0, 1, 0, 0, 1};
            for (int i = 0; i < 5; i++) {
                due("at(" + i + ", 2)", x.at(i, 2), rests[i]);
            }
        });
        edge(15, "NONE - 1 if there is none such, or another what.", () -> {
            for (int length : new int[] {1, 7, 60}) {
                MoveUp x = people(length);
                for (int what = 0; what <= 2; what++) {
                    for (int inch : new int[] {-1, length, 60, 61, FAR, LOW}) {
                        due("at(" + inch + ", " + what + ")", x.at(inch, what), NOTHING);
                    }
                    due("the first", x.at(0, what), what == 2 ? 0 : NONE);
                    due("the last", x.at(length - 1, what), what == 2 ? 0 : NONE);
                }
                for (int what : new int[] {-1, 3, FAR, LOW}) {
                    due("what " + what, x.at(0, what), NOTHING);
                }
            }
        });
    }

    private static void look() {
        edge(28, "NONE for another what.", () -> {
            MoveUp x = people(3, 1, 1, 1);
            leavesAll(x, () -> {
                for (int what : new int[] {-1, 11, 12, 19, FAR, LOW}) {
                    due("look(" + what + ")", x.look(what), NONE);
                }
            });
        });
        edge(28, "20 + i who SITS as the i-th from the left.", () -> {
            MoveUp x = people(10, 1, 1, 1, 1, 1, 1, 1, 1, 1, 1);
            due("nobody SITS", x.look(20), NONE);
            for (int p = 0; p < 10; p++) {
                seat(x, p, 9 - p);
                due("the leftmost", x.look(20), p);
                due("the rightmost", x.look(20 + p), 0);
                due("no more", x.look(21 + p), NONE);
            }
            due("ten of them", x.look(2), 10);
            due("the last", x.look(29), 0);
            due("an eleventh", x.look(30), NONE);
        });
        edge(28, "9 inches that are free", () -> {
            MoveUp x = people(6, 2, 3);
            due("nobody SITS", x.look(9), 6);
            x.set(2, 0, 1);
            x.come(0);
            due("without WIDE and BAG", x.look(9), 3);
            x.come(1);
            due("all places taken", x.look(9), 0);
        });
        edge(28, "10 ARM RESTS", () -> {
            MoveUp x = people(3);
            due("none", x.look(10), 0);
            x.rest(2, true);
            due("one", x.look(10), 1);
            x.rest(1, true);
            due("as many as can be", x.look(10), 2);
            x.rest(3, true);
            x.rest(0, true);
            due("and no more", x.look(10), 2);
            x.rest(2, false);
            due("one less", x.look(10), 1);
        });
        edge(28, "What 0 LENGTH, 1 PEOPLE, 2 how many SIT, 3 HOUR, 4 lines of THE BOOK", () -> {
            MoveUp x = people(60, 1, 1, 1, 1, 1, 1, 1, 1, 1, 1);
            for (int p = 0; p < 10; p++) {
                x.come(p);
            }
            due("LENGTH", x.look(0), 60);
            due("PEOPLE", x.look(1), 10);
            due("how many SIT", x.look(2), 10);
            pass(x, 999);
            due("HOUR", x.look(3), 999);
            for (int i = 0; i < 71; i++) {
                x.go(0);
                x.come(0);
            }
            due("lines of THE BOOK", x.look(4), 150);
        });
        edge(28, "8 what can be undone", () -> {
            MoveUp x = people(6, 2);
            due("nothing", x.look(8), 0);
            x.come(0);
            due("an ACT", x.look(8), 1);
            x.hours(4);
            due("and HOURS", x.look(8), 5);
            x.go(0);
            due("six", x.look(8), 6);
            x.come(0);
            due("no more", x.look(8), 6);
            x.undo();
            due("one less", x.look(8), 5);
        });
        edge(28, "5, 6 lines of both LAWS, 7 of A DAY", () -> {
            MoveUp x = people(6, 2);
            Texts.tell(x, 0, "sit 1;".repeat(16));
            Texts.tell(x, 1, "cost 1;".repeat(15));
            Texts.tell(x, 2, "go 0 at 1;".repeat(24));
            due("SITTING", x.look(5), 16);
            due("MOVING", x.look(6), 15);
            due("A DAY", x.look(7), 24);
            Texts.tell(x, 0, "sit 1;".repeat(17));
            Texts.tell(x, 1, "");
            due("refused: as it was", x.look(5), 16);
            due("empty", x.look(6), 0);
            due("A DAY stays", x.look(7), 24);
        });
    }
}
