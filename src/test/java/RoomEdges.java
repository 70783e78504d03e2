/** ROOM, RISE, ORDERS and DAY's STANDS: promises 18, 19, 23 and 25. */
final class RoomEdges extends Edges {
    private RoomEdges() {
    }

    static void all() {
        nothingStays();
        gaps();
        order();
        kept();
        least();
        ofSeveral();
        full();
        roomWrong();
        rise();
        riseWrong();
        orders();
        ordersDeadEnd();
        ordersByLaw();
        ordersWrong();
        stands();
        standsTill();
    }

    private static void nothingStays() {
        edge(18, "IN THOUGHT (nothing of it stays).", () -> {
            MoveUp x = people(6, 2, 4);
            seat(x, 0, 1);
            x.hours(1);
            leavesAll(x, () -> {
                due("he would be moved", x.room(1, 10), 0);
                due("the other would SIT", x.room(1, 2), 2);
            });
            due("what can be undone", x.look(8), 2);
        });
        edge(19, "IN THOUGHT (nothing of it stays).", () -> {
            MoveUp x = people(6, 3, 3, 3);
            x.come(0);
            x.come(1);
            leavesAll(x, () -> due("who", x.rise(2, 0), 0));
            due("what can be undone", x.look(8), 2);
        });
        edge(23, "IN THOUGHT (nothing of it stays).", () -> {
            MoveUp x = people(6, 3, 3, 3);
            x.come(1);
            x.come(0);
            leavesAll(x, () -> due("who came first", x.orders(10), 1));
            due("what can be undone", x.look(8), 2);
        });
        edge(25, "IN THOUGHT (nothing of it stays).", () -> {
            MoveUp x = people(6, 3, 3, 3);
            Texts.tell(x, 2, "come 2 at 5;go 0 at 6;beg 1 at 7;come 2 at 8;");
            x.come(0);
            x.hours(1);
            leavesAll(x, () -> due("how many", x.stands(0), 0));
            due("what can be undone", x.look(8), 2);
            x.undo();
            due("not WARM", x.at(0, 1), NONE);
        });
    }

    private static void gaps() {
        edge(18, "ROOM of one who stands: he comes between two neighbours, or to an end", () -> {
            MoveUp x = people(6, 2, 2, 2);
            due("nobody SITS", x.room(2, 2), 0);
            int[][] seats = {{0, 4, 2}, {2, 4, 0}, {0, 2, 4}};
            for (int[] s : seats) {
                seat(x, 0, s[0]);
                seat(x, 1, s[1]);
                due("his inch", x.room(2, 2), s[2]);
                due("no cost", x.room(2, 0), 0);
                due("nobody is moved", x.room(2, 1), 0);
                x.go(0);
                x.go(1);
            }
        });
        edge(18, "who does not MOVE stays", () -> {
            MoveUp x = people(4, 1, 3);
            x.set(4, 1, 0);
            seat(x, 0, 1);
            due("his own MOVES is nothing for ROOM", x.room(1, 2), 1);
        });
    }

    private static void order() {
        edge(18, "and all SIT at such inches, in the order that they have, each having a place", () -> {
            MoveUp x = people(6, 1, 2, 3);
            x.rest(2, true);
            x.rest(5, true);
            seat(x, 0, 2);
            seat(x, 1, 3);
            due("only if both changed places", x.room(2, 0), NONE);
            x.go(0);
            x.go(1);
            seat(x, 1, 2);
            seat(x, 0, 4);
            due("the other way round: cost", x.room(2, 0), 3);
            due("he comes between", x.room(2, 2), 2);
            due("to the right", x.room(2, 10), 5);
            due("to the left", x.room(2, 11), 0);
        });
        edge(18, "in the order that they have", () -> {
            MoveUp x = people(10, 1, 2, 3, 4);
            seat(x, 0, 8);
            seat(x, 1, 5);
            seat(x, 2, 1);
            // 2, 1, 0 from the left, and nothing is free then: 6 at the ends, 4 in both gaps between
            due("cost", x.room(3, 0), 1 + 2 + 1);
            due("how many are moved", x.room(3, 1), 3);
            due("his inch", x.room(3, 2), 3);
            due("the right one", x.room(3, 10), 9);
            due("the middle one", x.room(3, 11), 7);
            due("the left one", x.room(3, 12), 0);
        });
        edge(18, "each having a place", () -> {
            MoveUp x = new MoveUp();
            x.bench(8);
            x.person(1, 3, 0, 1, 1);
            x.person(1, 0, 0, 1, 1);
            x.person(1, 0, 0, 0, 1);
            x.person(1, 0, 0, 0, 1);
            seat(x, 0, 0);
            seat(x, 1, 1);
            seat(x, 2, 2);
            x.go(1);
            due("both who are neighbours now are too near: the right one is moved", x.room(3, 12), 4);
            due("cost", x.room(3, 0), 2);
            due("the leftmost gap for that", x.room(3, 2), 5);
            x.set(4, 2, 0);
            x.set(4, 0, 0);
            due("they stay: none", x.room(3, 0), NONE);
            x.set(0, 3, 8);
            due("without one of them still none", x.rise(3, 0), NONE);
        });
        edge(18, "who does not MOVE stays", () -> {
            MoveUp x = people(8, 2, 2, 3);
            seat(x, 0, 1);
            seat(x, 1, 5);
            due("both may", x.room(2, 0), 1);
            due("of two as cheap the lesser inch", x.room(2, 10), 0);
            x.set(4, 0, 0);
            due("one may", x.room(2, 0), 1);
            due("he is it", x.room(2, 11), 6);
            due("the other stays", x.room(2, 10), 1);
            x.set(4, 1, 0);
            due("neither may", x.room(2, 0), NONE);
        });
    }

    /** 0 SITS at 0, 1 at 3, 2 asks: what he and both of them keep and are of, and his inch or NONE. */
    private static void among(int length, int[] keep, int[] group, int want, int moved) {
        MoveUp x = new MoveUp();
        x.bench(length);
        for (int p = 0; p < 3; p++) {
            x.person(2, keep[p], 0, group[p], 1);
        }
        seat(x, 0, 0);
        seat(x, 1, length - 2);
        due("his inch", x.room(2, 2), want);
        due("how many are moved", x.room(2, 1), moved);
    }

    private static void kept() {
        edge(18, "all neighbours (left and right) are kept so.", () -> {
            among(8, new int[] {0, 0, 1}, new int[3], 3, 0);
            among(8, new int[] {1, 1, 0}, new int[3], 3, 0);
            among(7, new int[] {0, 0, 1}, new int[3], 0, 1);
            among(6, new int[] {0, 0, 1}, new int[3], NONE, NONE);
            among(7, new int[] {1, 0, 0}, new int[3], 3, 0);
            among(7, new int[] {0, 1, 0}, new int[3], 2, 0);
            among(6, new int[] {1, 0, 0}, new int[3], NONE, NONE);
            among(6, new int[] {0, 1, 0}, new int[3], NONE, NONE);
            among(6, new int[] {0, 0, 0}, new int[3], 2, 0);
        });
        edge(18, "0, if both are of one GROUP above 0.", () -> {
            int[] keeps = {5, 5, 5};
            among(6, keeps, new int[] {1, 1, 1}, 2, 0);
            among(6, keeps, new int[] {9, 9, 9}, 2, 0);
            among(16, keeps, new int[] {0, 0, 0}, 7, 0);
            among(11, keeps, new int[] {1, 2, 1}, 2, 0);
            among(10, keeps, new int[] {1, 2, 1}, NONE, NONE);
            among(11, keeps, new int[] {2, 1, 1}, 7, 0);
            among(16, keeps, new int[] {1, 1, 2}, 7, 0);
            among(15, keeps, new int[] {0, 0, 0}, NONE, NONE);
        });
        edge(18, "if all that he takes is on THE BENCH", () -> {
            MoveUp x = people(6, 2, 1);
            x.set(2, 1, 2);
            seat(x, 0, 1);
            due("with his BAG to the end", x.room(1, 2), 3);
            due("nobody is moved", x.room(1, 1), 0);
            x.set(2, 1, 3);
            due("an inch more: the other is moved", x.room(1, 2), 2);
            due("he is", x.room(1, 10), 0);
            x.set(2, 1, 4);
            due("an inch more: none", x.room(1, 2), NONE);
            x.go(0);
            x.set(2, 0, 1);
            seat(x, 0, 3);
            x.set(2, 1, 2);
            due("the BAG of the other, too", x.room(1, 2), 0);
            x.set(0, 1, 2);
            due("he can't go further than that", x.room(1, 0), NONE);
        });
    }

    private static void least() {
        edge(18, "the least sum of costs; with that the fewest who are moved", () -> {
            MoveUp x = people(8, 1, 1, 2, 3);
            seat(x, 0, 1);
            seat(x, 1, 2);
            seat(x, 2, 5);
            // to the left end: 0 and 1 to 3 and 4; behind 1: 2 to 6
            Texts.tell(x, 1, "cost 2 when wide=1;cost 4;");
            due("as dear: cost", x.room(3, 0), 4);
            due("as dear: the fewest", x.room(3, 1), 1);
            due("behind 1", x.room(3, 2), 3);
            due("2 is moved", x.room(3, 12), 6);
            Texts.tell(x, 1, "cost 2 when wide=1;cost 5;");
            due("two are cheaper: cost", x.room(3, 0), 4);
            due("two are cheaper: how many", x.room(3, 1), 2);
            due("to the left end", x.room(3, 2), 0);
            Texts.tell(x, 1, "cost 2 when wide=1;cost 3;");
            due("one is cheaper", x.room(3, 0), 3);
            Texts.tell(x, 1, "cost 0;");
            due("without cost", x.room(3, 0), 0);
            due("without cost: the fewest", x.room(3, 1), 1);
        });
    }

    private static void ofSeveral() {
        edge(18, "of several the first (the leftmost gap for him", () -> {
            MoveUp x = people(5, 1, 3);
            seat(x, 0, 2);
            due("cost", x.room(1, 0), 1);
            due("he comes to the left end", x.room(1, 2), 0);
            due("the other goes to the right", x.room(1, 10), 3);
            MoveUp y = people(6, 1, 1, 3);
            seat(y, 0, 1);
            seat(y, 1, 3);
            Texts.tell(y, 1, "cost 1;");
            due("between them, as to the right end", y.room(2, 0), 1);
            due("between them", y.room(2, 2), 2);
        });
        edge(18, "then the inches from the left on, the lesser", () -> {
            MoveUp x = people(6, 1, 3);
            seat(x, 0, 2);
            Texts.tell(x, 1, "cost 1;");
            due("no need to move", x.room(1, 2), 3);
            x.bench(6);
            x.person(1, 0, 0, 0, 1);
            x.person(4, 0, 0, 0, 1);
            seat(x, 0, 2);
            Texts.tell(x, 1, "cost 1;");
            due("he at the least inch", x.room(1, 2), 0);
            due("the other at the lesser of two", x.room(1, 10), 4);
        });
    }

    private static void full() {
        edge(18, "all SIT at such inches", () -> {
            MoveUp x = people(20, 1, 1, 1, 1, 1, 1, 1, 1, 1, 11);
            for (int i = 0; i < 9; i++) {
                seat(x, i, 2 * i + 1);
            }
            // nothing is free then: the i-th goes to i (by i + 1) or to i + 11 (by 10 - i), the first five to the left
            due("all places taken: cost", x.room(9, 0), 1 + 2 + 3 + 4 + 5 + 5 + 4 + 3 + 2);
            due("all nine are moved", x.room(9, 1), 9);
            due("his inch", x.room(9, 2), 5);
            due("the first", x.room(9, 10), 0);
            due("the ninth", x.room(9, 18), 19);
            Texts.tell(x, 1, "cost 9999;");
            due("the dearest", x.room(9, 0), 9 * 999);
            x.set(0, 9, 12);
            due("an inch more than there is", x.room(9, 0), NONE);
        });
    }

    private static void roomWrong() {
        edge(18, "ROOM what 0 cost, 1 how many are moved, 2 the inch for him, 10 + p the inch for PERSON p who SITS.", () -> {
            MoveUp x = people(8, 2, 5, 1, 1);
            seat(x, 0, 1);
            seat(x, 2, 7);
            due("cost", x.room(1, 0), 1);
            due("moved", x.room(1, 1), 1);
            due("for him", x.room(1, 2), 2);
            due("for 0", x.room(1, 10), 0);
            due("himself stands", x.room(1, 11), NONE);
            due("for 2 who stays", x.room(1, 12), 7);
            due("3 stands", x.room(1, 13), NONE);
            due("there is no 4", x.room(1, 14), NONE);
        });
        edge(18, "NONE without ROOM, if one can't be (he SITS), or another what.", () -> {
            MoveUp x = people(6, 2, 4, 5);
            seat(x, 0, 1);
            for (int what : new int[] {0, 1, 2, 10, 11, 12}) {
                due("without ROOM " + what, x.room(2, what), NONE);
                due("he SITS " + what, x.room(0, what), NONE);
                for (int p : new int[] {-1, 3, 10, FAR, LOW}) {
                    due("room(" + p + ", " + what + ")", x.room(p, what), NONE);
                }
            }
            for (int what : new int[] {-1, 3, 4, 9, 13, 19, 20, FAR, LOW}) {
                due("what " + what, x.room(1, what), NONE);
            }
        });
    }

    private static void rise() {
        edge(19, "RISE: of those who SIT the one without whom (he standing aside) ROOM of one who stands costs least", () -> {
            MoveUp x = people(7, 1, 1, 3, 5);
            seat(x, 0, 1);
            seat(x, 1, 3);
            seat(x, 2, 4);
            due("without 2: 0 to 0 and 1 to 1", x.rise(3, 0), 2);
            due("what it costs", x.rise(3, 1), 3);
            MoveUp y = people(5, 2, 5);
            seat(y, 0, 1);
            due("the only one", y.rise(1, 0), 0);
            due("nobody is moved then", y.rise(1, 1), 0);
        });
        edge(19, "of several the least number.", () -> {
            MoveUp x = people(6, 2, 2, 2, 2);
            seat(x, 2, 0);
            seat(x, 0, 2);
            seat(x, 1, 4);
            due("not the leftmost: the least number", x.rise(3, 0), 0);
            due("no cost", x.rise(3, 1), 0);
        });
    }

    private static void riseWrong() {
        edge(19, "NONE if with nobody, one can't be, or another what.", () -> {
            MoveUp x = people(6, 2, 2, 7, 3);
            due("nobody SITS: who", x.rise(3, 0), NONE);
            due("nobody SITS: the cost", x.rise(3, 1), NONE);
            x.come(0);
            x.come(1);
            due("too WIDE: who", x.rise(2, 0), NONE);
            due("too WIDE: the cost", x.rise(2, 1), NONE);
            for (int what = 0; what < 2; what++) {
                due("he SITS", x.rise(0, what), NONE);
                for (int p : new int[] {-1, 4, 10, FAR, LOW}) {
                    due("rise(" + p + ", " + what + ")", x.rise(p, what), NONE);
                }
            }
            for (int what : new int[] {-1, 2, 3, 10, FAR, LOW}) {
                due("what " + what, x.rise(3, what), NONE);
            }
            due("without 1 it costs nothing", x.rise(3, 0), 1);
        });
    }

    private static void orders() {
        edge(23, "ORDERS what 0 how many (nobody SITS: 1)", () -> {
            MoveUp x = people(6, 1, 1);
            due("nobody SITS", x.orders(0), 1);
            due("no first", x.orders(10), NONE);
            x.come(1);
            due("one SITS", x.orders(0), 1);
            due("he came", x.orders(10), 1);
            due("no second", x.orders(11), NONE);
        });
        edge(23, "ORDERS: in how many orders those who SIT (8 at most) can have come", () -> {
            MoveUp x = new MoveUp();
            x.bench(20);
            for (int i = 0; i < 9; i++) {
                x.person(1, 0, 0, 9 - i, 1);
            }
            Texts.tell(x, 0, "sit 1 when at=2*group;");
            for (int i = 7; i >= 0; i--) {
                due("each has his own place", x.come(i), 18 - 2 * i);
            }
            due("eight: any order", x.orders(0), 40320);
            for (int i = 0; i < 8; i++) {
                due("the first of them", x.orders(10 + i), i);
            }
            due("no ninth", x.orders(18), NONE);
            x.come(8);
            due("nine", x.orders(0), NONE);
            due("nine", x.orders(10), NONE);
            x.go(0);
            due("eight again", x.orders(0), 40320);
            due("without 0", x.orders(10), 1);
        });
        edge(23, "the first (person by person, the lesser).", () -> {
            MoveUp x = people(9, 1, 2, 1, 2);
            seat(x, 3, 2);
            seat(x, 1, 0);
            seat(x, 2, 4);
            Texts.tell(x, 0, "sit 1 when at=4 and wide=1;");
            // 1 SITS at 0 whenever he comes, 3 at 2 if 1 is there, 2 at 4 always
            due("how many", x.orders(0), 3);
            due("first", x.orders(10), 1);
            due("second: 2 is less than 3", x.orders(11), 2);
            due("third", x.orders(12), 3);
        });
    }

    private static void ordersDeadEnd() {
        edge(23, "10 + i who came as the i-th in the first one (0 the first).", () -> {
            MoveUp x = people(9, 1, 1, 1, 1, 1, 1, 1, 1);
            int[] who = {7, 2, 5, 0, 6, 1, 4, 3};
            for (int p : who) {
                x.come(p);
            }
            for (int i = 0; i < 8; i++) {
                due("who came as the " + i + "-th", x.orders(10 + i), who[i]);
            }
            due("before the first", x.orders(9), NONE);
            due("behind the last", x.orders(18), NONE);
        });
        edge(23, "the first (person by person, the lesser).", () -> {
            MoveUp x = people(9, 1, 2);
            seat(x, 1, 0);
            seat(x, 0, 5);
            Texts.tell(x, 0, "sit 1 when at=5 and wide=1;sit 1 when at=2 and wide=2 and sitting=1;");
            // 0 would SIT so as the first, but 1 would not behind him
            due("one order", x.orders(0), 1);
            due("not the lesser, who leads to none", x.orders(10), 1);
            due("he is the second", x.orders(11), 0);
        });
    }

    private static void ordersByLaw() {
        edge(23, "each having SAT down by SITTING just where he SITS now, those ahead of him being there already", () -> {
            MoveUp x = people(9, 3, 3, 3);
            x.come(1);
            x.come(0);
            x.come(2);
            due("one behind the other", x.orders(0), 1);
            int[] first = {1, 0, 2};
            for (int i = 0; i < 3; i++) {
                due("who came", x.orders(10 + i), first[i]);
            }
            Texts.tell(x, 0, "sit at;");
            due("by another LAW the other way round", x.orders(10), 2);
            Texts.tell(x, 0, "sit 1 when sitting=2 and at=0;sit 1 when at=3 and sitting=0;sit 1 when at=6 and sitting=1;");
            due("how many SIT is told as it was", x.orders(0), 1);
            due("who came first", x.orders(10), 0);
            due("who came last", x.orders(12), 1);
            Texts.tell(x, 0, "sit 1 when at=4;");
            due("in none", x.orders(0), 0);
        });
        edge(23, "(HOUR, WARM as now), nobody moved", () -> {
            MoveUp x = people(9, 2, 2, 4);
            seat(x, 0, 3);
            due("not at the least inch", x.orders(0), 0);
            Texts.tell(x, 0, "sit hour when at=3;");
            due("HOUR 0", x.orders(0), 0);
            x.hours(1);
            due("HOUR 1", x.orders(0), 1);
            Texts.tell(x, 0, "sit warm;");
            due("WARM as now", x.orders(0), 1);
            x.hours(9);
            due("WARM by HOUR 9", x.orders(0), 1);
            MoveUp y = people(6, 2, 4);
            Texts.tell(y, 0, "sit 1 when at=1;");
            y.come(0);
            due("he SITS in the middle", y.of(0, 5), 1);
            y.beg(1);
            due("he was moved", y.of(0, 5), 0);
            due("he can't have come so", y.orders(0), 0);
            Texts.tell(y, 0, "");
            due("by another LAW he can", y.orders(0), 1);
        });
    }

    private static void ordersWrong() {
        edge(23, "NONE if more than 8 SIT, 10 + i without one, or another what.", () -> {
            MoveUp x = people(9, 1, 1, 1);
            x.come(0);
            x.come(1);
            for (int what : new int[] {-1, 1, 2, 9, FAR, LOW}) {
                due("what " + what, x.orders(what), NONE);
            }
            due("the last", x.orders(11), 1);
            for (int what : new int[] {12, 13, 17, 18, 19, 20}) {
                due("nobody came as that", x.orders(what), NONE);
            }
            Texts.tell(x, 0, "sit 1 when at=5;");
            due("in no order", x.orders(0), 0);
            due("no first order", x.orders(10), NONE);
            due("no first order", x.orders(11), NONE);
        });
    }

    private static void stands() {
        edge(25, "DAY's STANDS: how many COME or BEG and stand", () -> {
            MoveUp x = people(4, 3, 3, 5);
            due("no DAY", x.stands(0), 0);
            due("no DAY", x.stands(1), NONE);
            Texts.tell(x, 2, "come 0 at 1;go 1 at 1;come 0 at 2;go 0 at 9;");
            due("what can't be done is nothing", x.stands(0), 0);
            due("no HOUR", x.stands(1), NONE);
            Texts.tell(x, 2, "beg 2 at 3;come 0 at 1;come 1 at 3;come 1 at 3;beg 1 at 2;go 0 at 4;come 1 at 4;");
            due("each time counts", x.stands(0), 4);
            due("the first HOUR, not the first line", x.stands(1), 2);
        });
        edge(25, "the first HOUR in which one does.", () -> {
            MoveUp x = people(4, 3, 3);
            x.come(0);
            Texts.tell(x, 2, "come 1 at 0;");
            due("HOUR 0", x.stands(1), 0);
            x.hours(1);
            due("it is over", x.stands(1), NONE);
            due("none", x.stands(0), 0);
            Texts.tell(x, 2, "come 1 at 0;beg 1 at 1;come 1 at 2;");
            due("the HOUR that it is", x.stands(1), 1);
            due("two to come", x.stands(0), 2);
        });
        edge(25, "1 the first HOUR (NONE). NONE for another what.", () -> {
            MoveUp x = people(4, 5);
            Texts.tell(x, 2, "come 0 at 5;");
            for (int what : new int[] {-1, 2, 3, FAR, LOW}) {
                due("what " + what, x.stands(what), NONE);
            }
            due("one", x.stands(0), 1);
            due("HOUR", x.stands(1), 5);
        });
    }

    private static void standsTill() {
        edge(25, "if HOURS go by to the 1000th", () -> {
            MoveUp x = people(4, 5);
            Texts.tell(x, 2, "come 0 at 999;beg 0 at 998;");
            due("both", x.stands(0), 2);
            due("the first", x.stands(1), 998);
            pass(x, 999);
            due("HOUR", x.look(3), 999);
            due("the 1000th alone", x.stands(0), 1);
            due("the first", x.stands(1), 999);
            due("HOUR stays", x.look(3), 999);
        });
        edge(25, "if HOURS go by", () -> {
            MoveUp x = people(6, 2, 2, 3);
            Texts.tell(x, 0, "sit 2 when warm=2;sit 1 when at=2 and hour<9;");
            Texts.tell(x, 2, "come 0 at 0;go 0 at 20;come 1 at 28;come 2 at 28;");
            due("2 and 3 are WARM at 28: 1 SITS there, 2 has no place", x.stands(0), 1);
            due("HOUR", x.stands(1), 28);
            Texts.tell(x, 2, "come 0 at 0;go 0 at 20;come 1 at 29;come 2 at 29;");
            due("and are not at 29: 1 SITS at 0", x.stands(0), 0);
        });
        edge(25, "if HOURS go by to the 1000th", () -> {
            MoveUp x = withFullBook();
            due("a full BOOK is no matter", x.stands(0), 1);
            due("THE BOOK stays", x.look(4), 150);
        });
    }

    private static MoveUp withFullBook() {
        MoveUp x = people(4, 3, 3);
        x.come(0);
        for (int i = 0; i < 150; i++) {
            x.come(1);
        }
        Texts.tell(x, 2, "beg 1 at 4;");
        return x;
    }
}
