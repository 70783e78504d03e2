/** What THE LAWS tell: of SITTING (promises 6 and 16), of MOVING (18). */
final class LawEdges extends Edges {
    private LawEdges() {
    }

    static void all() {
        ints();
        claims();
        firstLine();
        tells();
        leftAndRight();
        warm();
        friends();
        sitting();
        most();
        costs();
        moved();
    }

    /** What SITTING tells of inch 3 on an empty bench. */
    private static void value(String sum, int want) {
        MoveUp x = people(10, 2);
        Texts.tell(x, 0, "sit " + sum + ";sit 77;");
        due(sum, x.tells(0, 3), want);
    }

    private static void ints() {
        edge(16, "Ints, which wrap; / goes towards 0.", () -> {
            value("9999*9999*21", 2099580021);
            value("9999*9999*22", -2095407274);
            value("9999*9999*21+9999*4790+8416", FAR);
            value("9999*9999*21+9999*4790+8417", LOW);
            value("0-9999*9999*21-9999*4790-8417", LOW);
            value("0-9999*9999*21-9999*4790-8418", FAR);
            value("9999*9999*22/1000", -2095407);
            value("9999*9999*22/9999", -209561);
            value("9999*9999*21/1000", 2099580);
            value("7/2", 3);
            value("1/2", 0);
            value("0/9", 0);
            value("8/2", 4);
        });
        edge(16, "E = T {(+ | -) T}.", () -> {
            value("10-3-2", 5);
            value("10-3+2", 9);
            value("1+2*3-8/2", 3);
        });
        edge(16, "T = U {* U | / NUMBER}.", () -> {
            value("7/2*2", 6);
            value("7*2/2", 7);
            value("100/5/2", 10);
            value("9999/1", 9999);
            value("0000", 0);
            value("0042", 42);
        });
    }

    private static void claims() {
        edge(16, "C = E (< | = | >) E", () -> {
            value("1 when 2<3", 1);
            value("1 when 3<3", 77);
            value("1 when 4<3", 77);
            value("1 when 2=3", 77);
            value("1 when 3=3", 1);
            value("1 when 4=3", 77);
            value("1 when 2>3", 77);
            value("1 when 3>3", 77);
            value("1 when 4>3", 1);
            value("1 when 0-1<0", 1);
            value("1 when 9999*9999*22<0", 1);
            value("1 when 9999*9999*21>9999*9999*22", 1);
            for (String so : new String[] {"2<3", "3=3", "4>3"}) {
                value("1 when not " + so, 77);
                value("1 when " + so + " and " + so, 1);
                value("1 when not(" + so + " and 1=2)", 1);
            }
        });
        edge(16, "B = A {or A}.", () -> {
            value("1 when 1=2 or 1=2", 77);
            value("1 when 1=2 or 1=1", 1);
            value("1 when 1=1 or 1=2", 1);
            value("1 when 1=1 or 1=1", 1);
            value("1 when 1=2 or 1=2 or 1=1", 1);
            value("1 when 1=1 or 1=1 and 1=2", 1);
        });
        edge(16, "A = C {and C}.", () -> {
            value("1 when 1=2 and 1=2", 77);
            value("1 when 1=2 and 1=1", 77);
            value("1 when 1=1 and 1=2", 77);
            value("1 when 1=1 and 1=1", 1);
            value("1 when 1=1 and 1=1 and 1=2", 77);
            value("1 when 1=2 and 1=1 or 1=1", 1);
        });
        edge(16, "not C | ( B ).", () -> {
            value("1 when not 1=1", 77);
            value("1 when not 1=2", 1);
            value("1 when not not 1=1", 1);
            value("1 when not 1=2 and 1=2", 77);
            value("1 when not (1=2 and 1=2)", 1);
            value("1 when (1=1 or 1=1) and 1=2", 77);
            value("1 when not (1=1 or 1=2) or 1=1", 1);
            value("1 when ((((((((1=1 and 1=2 or 3=3))))))))", 1);
            value("1 when not(not(not(not(1=1))))", 1);
            value("1 when not not not not not not not not 1=2", 77);
        });
    }

    private static void firstLine() {
        edge(16, "E of the first line whose B is so, or that has none (none: 0)", () -> {
            MoveUp x = people(10, 2);
            due("no LAW", x.tells(0, 0), 0);
            Texts.tell(x, 0, "sit 5 when at=1;sit 6 when at<3;sit 7 when at>7;");
            due("no line's", x.tells(0, 5), 0);
            due("the first of two", x.tells(0, 1), 5);
            due("the second", x.tells(0, 2), 6);
            due("the last", x.tells(0, 8), 7);
            Texts.tell(x, 0, "sit 5 when at=1;sit 6;sit 7 when at=8;sit 8;");
            due("ahead of the one without B", x.tells(0, 1), 5);
            due("the one without B", x.tells(0, 2), 6);
            due("what is behind it", x.tells(0, 8), 6);
            Texts.tell(x, 0, "sit 5 when at=1;".repeat(15) + "sit 9;");
            due("the sixteenth", x.tells(0, 2), 9);
        });
    }

    private static void tells() {
        edge(16, "NONE - 999999 if he has no place there, or there is none such.", () -> {
            MoveUp x = people(8, 2, 3);
            Texts.tell(x, 0, "sit 0-4;");
            due("the first inch", x.tells(0, 0), -4);
            due("the last place", x.tells(0, 6), -4);
            due("an inch more", x.tells(0, 7), NO_PLACE);
            leavesAll(x, () -> {
                for (int inch : new int[] {-1, 8, 9, 60, FAR, FAR - 1, FAR - 2, LOW}) {
                    due("tells(0, " + inch + ")", x.tells(0, inch), NO_PLACE);
                }
                for (int p : new int[] {-1, 2, 10, FAR, LOW}) {
                    due("tells(" + p + ", 0)", x.tells(p, 0), NO_PLACE);
                }
            });
            x.come(1);
            due("where he SITS", x.tells(1, 0), NO_PLACE);
            due("where he could SIT", x.tells(1, 4), NO_PLACE);
            due("where another SITS", x.tells(0, 2), NO_PLACE);
            due("beside him", x.tells(0, 3), -4);
        });
        edge(16, "wide, keep, bag, group: his; hour; at: the inch", () -> {
            MoveUp x = new MoveUp();
            x.bench(60);
            x.person(20, 15, 10, 9, 1);
            x.person(1, 0, 0, 0, 0);
            Texts.tell(x, 0, "sit wide*1000+keep*100+bag*10+group;");
            due("the most", x.tells(0, 7), 20000 + 1500 + 100 + 9);
            due("the least", x.tells(1, 7), 1000);
            Texts.tell(x, 0, "sit at;");
            due("the first inch", x.tells(1, 0), 0);
            due("the last inch", x.tells(1, 59), 59);
            Texts.tell(x, 0, "sit hour;");
            due("HOUR 0", x.tells(1, 0), 0);
            pass(x, 999);
            due("HOUR 999", x.tells(1, 0), 999);
        });
    }

    private static void leftAndRight() {
        edge(16, "left, right: how many inches are free from there to what his left neighbour takes (or the end)", () -> {
            MoveUp x = people(20, 2, 3, 2);
            x.set(2, 0, 1);
            Texts.tell(x, 0, "sit left;");
            due("at the end", x.tells(2, 0), 0);
            due("an inch off", x.tells(2, 1), 1);
            due("nobody SITS: all of it", x.tells(2, 18), 18);
            seat(x, 0, 4);
            seat(x, 1, 12);
            Texts.tell(x, 0, "sit left;");
            due("to the end", x.tells(2, 2), 2);
            due("beside his BAG", x.tells(2, 7), 0);
            due("an inch off", x.tells(2, 8), 1);
            due("just ahead of the other", x.tells(2, 10), 3);
            due("beside the last", x.tells(2, 15), 0);
            due("at the right end", x.tells(2, 18), 3);
        });
        edge(16, "and from behind what he would take to his right neighbour (or the end)", () -> {
            MoveUp x = people(20, 2, 3, 2);
            x.set(2, 2, 2);
            Texts.tell(x, 0, "sit right;");
            due("nobody SITS: all of it", x.tells(2, 0), 16);
            due("at the end", x.tells(2, 16), 0);
            due("an inch off", x.tells(2, 15), 1);
            seat(x, 0, 5);
            seat(x, 1, 13);
            Texts.tell(x, 0, "sit right;");
            due("at the left end", x.tells(2, 0), 1);
            due("just ahead of him", x.tells(2, 1), 0);
            due("behind him", x.tells(2, 7), 2);
            due("just ahead of the other", x.tells(2, 9), 0);
            due("to the end", x.tells(2, 16), 0);
        });
        edge(16, "how many inches are free from there", () -> {
            MoveUp x = people(20, 2, 2);
            x.set(1, 0, 3);
            x.rest(9, true);
            seat(x, 0, 4);
            Texts.tell(x, 0, "sit left*100+right;");
            due("what is kept off is free, and an ARM REST parts nothing", x.tells(1, 12), 600 + 6);
            due("the nearest place", x.tells(1, 9), 300 + 9);
        });
    }

    private static void warm() {
        edge(16, "warm: how many inches of his WIDE are WARM by 9 HOURS at most (HOUR less WARM)", () -> {
            MoveUp x = people(10, 3, 4);
            seat(x, 0, 2);
            Texts.tell(x, 0, "sit warm;");
            due("not WARM yet", x.tells(1, 5), 0);
            x.hours(1);
            x.go(0);
            int[] warm = {2, 3, 3, 2, 1, 0, 0};
            for (int i = 0; i < warm.length; i++) {
                due("1 HOUR, at " + i, x.tells(1, i), warm[i]);
            }
            x.hours(8);
            due("9 HOURS", x.tells(1, 0), 2);
            x.hours(1);
            due("10 HOURS", x.tells(1, 0), 0);
            due("still WARM", x.at(2, 1), 0);
        });
        edge(16, "warm: how many inches of his WIDE are WARM by 9 HOURS at most", () -> {
            MoveUp x = people(60, 1, 1, 2);
            seat(x, 0, 0);
            seat(x, 1, 59);
            pass(x, 990);
            x.go(0);
            x.go(1);
            Texts.tell(x, 0, "sit warm;");
            due("the first inch", x.tells(2, 0), 1);
            due("the second is not", x.tells(2, 1), 0);
            due("the last inch", x.tells(2, 58), 1);
            due("the one ahead is not", x.tells(2, 57), 0);
            x.hours(8);
            due("9 HOURS", x.tells(2, 0), 1);
            x.hours(1);
            due("10 HOURS", x.tells(2, 0), 0);
            due("HOUR", x.look(3), 999);
        });
        edge(16, "how many inches of his WIDE are WARM", () -> {
            MoveUp x = people(10, 3, 2);
            x.set(2, 1, 3);
            seat(x, 0, 4);
            x.hours(1);
            x.go(0);
            Texts.tell(x, 0, "sit warm;");
            due("under his BAG alone", x.tells(1, 2), 0);
            due("an inch under his WIDE", x.tells(1, 3), 1);
            due("both", x.tells(1, 4), 2);
            due("the last", x.tells(1, 5), 2);
        });
    }

    private static void friends() {
        edge(16, "friends: how many neighbours are of his GROUP (above 0)", () -> {
            MoveUp x = new MoveUp();
            x.bench(12);
            int[] groups = {1, 1, 1, 2, 0, 0};
            for (int g : groups) {
                x.person(1, 0, 0, g, 1);
            }
            Texts.tell(x, 0, "sit friends;");
            due("nobody SITS", x.tells(2, 3), 0);
            seat(x, 0, 2);
            seat(x, 1, 6);
            Texts.tell(x, 0, "sit friends;");
            due("the right one", x.tells(2, 0), 1);
            due("both", x.tells(2, 4), 2);
            due("the left one", x.tells(2, 9), 1);
            due("of another GROUP", x.tells(3, 4), 0);
            seat(x, 4, 8);
            Texts.tell(x, 0, "sit friends;");
            due("of no GROUP both", x.tells(5, 10), 0);
            due("the left one alone", x.tells(2, 7), 1);
            due("who is no neighbour", x.tells(2, 10), 0);
        });
    }

    private static void sitting() {
        edge(16, "sitting: how many SIT.", () -> {
            MoveUp x = people(12, 1, 1, 1, 1, 1, 1, 1, 1, 1, 1);
            for (int p = 0; p < 10; p++) {
                Texts.tell(x, 0, "sit sitting;");
                due("so many", x.tells(p, 10), p);
                Texts.tell(x, 0, "");
                x.come(p);
            }
        });
    }

    private static void most() {
        edge(6, "He SITS where it tells most; of several the least inch.", () -> {
            MoveUp x = people(10, 2, 2);
            Texts.tell(x, 0, "sit 3 when at=4 or at=6;sit 2;");
            due("of two the least inch", x.come(0), 4);
            due("of those that are left", x.come(1), 6);
            x = people(10, 2, 2, 2, 1);
            Texts.tell(x, 0, "sit at;");
            due("the last place", x.come(0), 8);
            Texts.tell(x, 0, "sit 0-at-1;");
            due("all below 0", x.come(1), 0);
            String least = "0-9999*9999*21-9999*4790-8417";
            Texts.tell(x, 0, "sit " + least + ";");
            due("the least int everywhere", x.come(2), 2);
            Texts.tell(x, 0, "sit " + least + "+1 when at=6;sit " + least + ";");
            due("one more than the least int", x.come(3), 6);
        });
        edge(6, "One COMES: the inch; NONE if he stands, there is none such, or he SITS already.", () -> {
            MoveUp x = people(4, 4, 1);
            x.come(0);
            due("all places taken: he stands", x.come(1), NONE);
            due("an ACT all the same", x.look(8), 2);
            due("and a line of THE BOOK", x.look(4), 2);
            leavesAll(x, () -> {
                due("he SITS already", x.come(0), NONE);
                for (int p : new int[] {-1, 2, 9, 10, FAR, LOW}) {
                    due("come(" + p + ")", x.come(p), NONE);
                }
            });
        });
    }

    /** 0 SITS at 10 of 20 inches, and the ARM RESTS let him go just so far to the right; the other takes 11. */
    private static MoveUp mustMove(int by, String law) {
        MoveUp x = people(20, 2, 1);
        x.set(2, 1, 10);
        seat(x, 0, 10);
        for (int rest = 1; rest < 20; rest++) {
            if (rest != 11 && rest != 11 + by) {
                x.rest(rest, true);
            }
        }
        Texts.tell(x, 1, law);
        return x;
    }

    private static void cost(String law, int by, int want) {
        MoveUp x = mustMove(by, law);
        due("by " + by + " by " + law, x.room(1, 0), want);
        due("who is moved", x.room(1, 1), 1);
        due("to where", x.room(1, 10), 10 + by);
    }

    private static void costs() {
        edge(18, "(none: moved)", () -> {
            cost("", 1, 1);
            cost("", 4, 4);
            cost("cost 7 when moved=9;", 2, 2);
            cost("cost 7 when moved=9;cost 8;", 2, 8);
            cost("cost 7 when moved=2;cost 8;", 2, 7);
        });
        edge(18, "held to 0 .. 999", () -> {
            cost("cost moved-1;", 1, 0);
            cost("cost moved-2;", 1, 0);
            cost("cost 0-9999*9999;", 1, 0);
            cost("cost 1;", 1, 1);
            cost("cost 998;", 1, 998);
            cost("cost 999;", 1, 999);
            cost("cost 1000;", 1, 999);
            cost("cost 9999*9999;", 1, 999);
            cost("cost 9999*9999*22;", 1, 0);
        });
        edge(18, "What MOVING costs: E of the first line of MOVING likewise", () -> {
            cost("cost 5 when moved<3;cost 6 when moved<4;", 2, 5);
            cost("cost 5 when moved<3;cost 6 when moved<4;", 3, 6);
            cost("cost 5 when moved<3;cost 6 when moved<4;", 4, 4);
            cost("cost moved/2;", 4, 2);
        });
    }

    private static void moved() {
        edge(18, "moved: by how many inches (1 at least)", () -> {
            cost("cost moved*10;", 1, 10);
            cost("cost moved*10;", 4, 40);
            cost("cost 500 when moved=0;cost 1;", 1, 1);
            MoveUp x = people(60, 1, 2);
            seat(x, 0, 59);
            for (int rest = 1; rest < 59; rest++) {
                x.rest(rest, true);
            }
            Texts.tell(x, 1, "cost 5 when moved=59;cost 9;");
            due("by 59", x.room(1, 0), 5);
            due("from the last inch to the first", x.room(1, 10), 0);
            Texts.tell(x, 1, "cost 5 when moved>59;cost 9;");
            due("by no more", x.room(1, 0), 9);
        });
        edge(18, "who does not move costs 0.", () -> {
            MoveUp x = people(10, 1, 2, 3);
            seat(x, 0, 0);
            seat(x, 1, 1);
            Texts.tell(x, 1, "cost 9;");
            due("nobody is moved", x.room(2, 0), 0);
            due("how many", x.room(2, 1), 0);
            seat(x, 2, 4);
            x.person(4, 0, 0, 0, 1);
            due("one alone is moved", x.room(3, 0), 9);
            due("how many", x.room(3, 1), 1);
        });
        edge(18, "all else his;", () -> {
            MoveUp x = new MoveUp();
            x.bench(8);
            x.person(2, 1, 1, 4, 1);
            x.person(5, 0, 0, 4, 1);
            seat(x, 0, 1);
            x.hours(3);
            Texts.tell(x, 1, "cost wide+keep*10+bag*100+group*50+hour*200;");
            due("his", x.room(1, 0), 2 + 10 + 100 + 200 + 600);
        });
    }
}
