/** ACTS, HOURS, THE BOOK, UNDO and THE IMAGE: promises 6 to 8, 13, 17, 26 and 27. */
final class ActEdges extends Edges {
    private ActEdges() {
    }

    static void all() {
        come();
        go();
        beg();
        hours();
        hoursWrong();
        warm();
        book();
        bookFull();
        undo();
        undoForgets();
        image();
    }

    private static void come() {
        edge(6, "To COME: who stands aside SITS by SITTING; without a place he stands.", () -> {
            MoveUp x = people(5, 3, 3, 2);
            due("on the empty bench", x.come(0), 0);
            due("no place", x.come(1), NONE);
            due("he stands", x.of(1, 5), NONE);
            due("THE BOOK has it", x.book(1, 2), 1);
            due("the rest of it", x.come(2), 3);
            due("all places taken", x.come(1), NONE);
            due("nothing is free", x.look(9), 0);
            due("two SIT", x.look(2), 2);
        });
        edge(6, "One COMES: the inch;", () -> {
            MoveUp x = people(60, 1);
            x.person(20, 0, 10, 0, 1);
            Texts.tell(x, 0, "sit at;");
            due("the last inch", x.come(0), 59);
            due("the last place for the widest", x.come(1), 29);
        });
    }

    private static void go() {
        edge(7, "One GOES: true; false if he does not SIT.", () -> {
            MoveUp x = people(8, 2, 2);
            due("he stands", x.go(0), false);
            x.come(0);
            leavesAll(x, () -> {
                for (int p : new int[] {-1, 1, 2, 10, FAR, LOW}) {
                    due("go(" + p + ")", x.go(p), false);
                }
            });
            due("he SITS", x.go(0), true);
            due("what can be undone", x.look(8), 2);
            due("he stands again", x.go(0), false);
            due("nothing is done", x.look(4), 2);
        });
        edge(7, "To GO: who SITS stands aside.", () -> {
            MoveUp x = people(4, 2, 2);
            x.come(0);
            x.come(1);
            x.go(0);
            due("the inch", x.of(0, 5), NONE);
            due("who SITS there", x.at(0, 0), NONE);
            due("the other SITS", x.of(1, 5), 2);
            due("the other is the first", x.of(1, 6), 0);
        });
    }

    private static void beg() {
        edge(8, "One BEGS: the inch; NONE if he stands, there is none such, or he SITS already.", () -> {
            MoveUp x = people(6, 2, 4, 5, 1);
            seat(x, 0, 1);
            due("without ROOM", x.beg(2), NONE);
            due("he stands", x.of(2, 5), NONE);
            due("with ROOM", x.beg(1), 2);
            due("all places taken", x.beg(3), NONE);
            due("lines of THE BOOK", x.look(4), 4);
            leavesAll(x, () -> {
                due("he SITS already", x.beg(1), NONE);
                for (int p : new int[] {-1, 4, 10, FAR, LOW}) {
                    due("beg(" + p + ")", x.beg(p), NONE);
                }
            });
        });
        edge(8, "To BEG: who stands has all move up as ROOM tells, and SITS there; without ROOM he stands.", () -> {
            MoveUp x = people(6, 2, 4, 5);
            due("nobody SITS: the least inch", x.beg(0), 0);
            x.go(0);
            seat(x, 0, 1);
            x.beg(2);
            due("without ROOM nobody is moved", x.of(0, 5), 1);
            x.set(4, 0, 0);
            x.beg(1);
            due("nor who does not MOVE", x.of(0, 5), 1);
            x.set(4, 0, 1);
            x.beg(1);
            due("he is moved", x.of(0, 5), 0);
            due("the other SITS", x.of(1, 5), 2);
        });
        edge(8, "has all move up as ROOM tells", () -> {
            MoveUp x = people(6, 2, 2);
            Texts.tell(x, 0, "sit at;");
            Texts.tell(x, 1, "cost 0;");
            x.come(0);
            due("by ROOM, not by SITTING", x.beg(1), 0);
            due("who need not is not moved", x.of(0, 5), 4);
        });
    }

    private static void hours() {
        edge(13, "HOURS go by (1 .. 60): how many lines of A DAY were done (who stands then, too).", () -> {
            MoveUp x = people(2, 2, 2);
            Texts.tell(x, 2, "go 0 at 59;come 0 at 0;come 1 at 0;beg 1 at 1;come 0 at 2;come 1 at 59;");
            due("two come, one of them stands", x.hours(1), 2);
            due("HOUR", x.look(3), 1);
            due("he begs and stands", x.hours(1), 1);
            x.bench(2);
            x.person(2, 0, 0, 0, 1);
            x.person(2, 0, 0, 0, 1);
            Texts.tell(x, 2, "come 0 at 0;come 1 at 59;come 1 at 60;go 0 at 60;");
            due("60 of them: HOURS 0 to 59", x.hours(60), 2);
            due("HOUR", x.look(3), 60);
            due("HOUR 60", x.hours(1), 2);
        });
        edge(13, "HOURS go by (1 .. 60)", () -> {
            MoveUp x = people(5, 1);
            due("none", x.hours(0), NONE);
            due("one", x.hours(1), 0);
            due("59", x.hours(59), 0);
            due("60", x.hours(60), 0);
            due("61", x.hours(61), NONE);
            due("HOUR", x.look(3), 120);
        });
        edge(13, "Line by line of A DAY AT this HOUR: what can be done.", () -> {
            MoveUp x = people(3, 2, 2);
            Texts.tell(x, 2, "come 1 at 1;go 1 at 0;go 0 at 1;come 0 at 1;come 0 at 1;go 1 at 1;come 0 at 1;go 1 at 1;beg 1 at 2;");
            due("HOUR 0: he can't go", x.hours(1), 0);
            due("HOUR 1: come 1, come 0 (stands), come 0 (stands), go 1, come 0", x.hours(1), 5);
            due("0 SITS", x.of(0, 5), 0);
            due("lines", x.look(4), 5);
            int[] who = {1, 0, 0, 1, 0};
            int[] what = {0, 1, 1, 2, 0};
            for (int i = 0; i < 5; i++) {
                due("who " + i, x.book(i, 1), who[i]);
                due("what " + i, x.book(i, 2), what[i]);
            }
        });
        edge(13, "HOUR 0 .. 999", () -> {
            MoveUp x = people(3, 1);
            Texts.tell(x, 2, "come 0 at 998;go 0 at 999;");
            pass(x, 998);
            due("HOUR", x.look(3), 998);
            due("the last HOUR that goes by", x.hours(1), 1);
            due("HOUR", x.look(3), 999);
            due("no more", x.hours(1), NONE);
            due("he SITS", x.of(0, 5), 0);
            due("ACTS still can be done", x.go(0), true);
            due("in HOUR 999", x.book(1, 0), 999);
        });
    }

    private static void hoursWrong() {
        edge(13, "NONE, and nothing is done, if one can't be, or HOUR would be above 999.", () -> {
            MoveUp x = busy();
            leavesAll(x, () -> {
                for (int n : new int[] {0, -1, 61, 1000, FAR, LOW}) {
                    due("hours(" + n + ")", x.hours(n), NONE);
                }
            });
            due("what can be undone still can", x.undo(), true);
            MoveUp y = people(3, 1);
            Texts.tell(y, 2, "come 0 at 997;");
            pass(y, 940);
            due("to 1000", y.hours(60), NONE);
            due("not a part of it", y.look(3), 940);
            due("nobody came", y.look(2), 0);
            due("what can be undone", y.look(8), 6);
            due("to 999", y.hours(59), 1);
            due("HOUR", y.look(3), 999);
            for (int n : new int[] {1, 60, FAR}) {
                due("beyond it", y.hours(n), NONE);
            }
        });
        edge(13, "`int hours(int n)`", () -> {
            MoveUp x = people(3, 1);
            Texts.tell(x, 2, "come 0 at 0;");
            x.hours(3);
            x.undo();
            x.undo();
            x.undo();
            due("an HOUR that was undone goes by anew", x.hours(1), 1);
        });
    }

    private static void warm() {
        edge(13, "Then each inch of WIDE of each who SITS is WARM by this HOUR; HOUR is one more.", () -> {
            MoveUp x = people(9, 2, 2, 2);
            x.set(2, 0, 1);
            Texts.tell(x, 2, "come 0 at 1;come 1 at 1;go 1 at 1;come 2 at 1;go 2 at 2;");
            x.hours(1);
            for (int i = 0; i < 9; i++) {
                due("nobody SITS: " + i, x.at(i, 1), NONE);
            }
            x.hours(1);
            int[] warm = {1, 1, NONE, 1, 1, NONE, NONE, NONE, NONE};
            for (int i = 0; i < 9; i++) {
                due("who came in it, but not the BAG: " + i, x.at(i, 1), warm[i]);
            }
            x.hours(1);
            due("who SITS still", x.at(0, 1), 2);
            due("who went in it", x.at(3, 1), 1);
            due("HOUR", x.look(3), 3);
        });
        edge(15, "the HOUR in which it was last sat on", () -> {
            MoveUp x = people(4, 2);
            seat(x, 0, 1);
            due("not yet: the HOUR is not over", x.at(1, 1), NONE);
            x.go(0);
            x.hours(1);
            due("nor then", x.at(1, 1), NONE);
            seat(x, 0, 1);
            pass(x, 998);
            due("HOUR", x.look(3), 999);
            due("WARM by the last that went by", x.at(1, 1), 998);
            due("his other inch", x.at(2, 1), 998);
            due("beside him", x.at(3, 1), NONE);
        });
    }

    private static void book() {
        edge(17, "what: 0 came, 1 came and stands, 2 went, 3 begged and sits, 4 begged and stands; the inch (went: that which he had; "
            + "NONE: stands).", () -> {
            MoveUp x = people(4, 3, 3, 4);
            x.hours(7);
            seat(x, 0, 1);
            x.come(1);
            x.beg(1);
            x.go(0);
            x.beg(2);
            int[][] lines = {{7, 0, 0, 1}, {7, 1, 1, NONE}, {7, 1, 4, NONE}, {7, 0, 2, 1}, {7, 2, 3, 0}};
            for (int i = 0; i < lines.length; i++) {
                for (int what = 0; what < 4; what++) {
                    due("book(" + i + ", " + what + ")", x.book(i, what), lines[i][what]);
                }
            }
        });
        edge(17, "NONE - 1 if there is none such, or another what.", () -> {
            MoveUp x = people(4, 3, 3);
            for (int what = 0; what < 4; what++) {
                due("an empty one", x.book(0, what), NOTHING);
            }
            x.come(0);
            x.come(1);
            leavesAll(x, () -> {
                for (int what = 0; what < 4; what++) {
                    for (int i : new int[] {-1, 2, 3, 149, 150, FAR, LOW}) {
                        due("book(" + i + ", " + what + ")", x.book(i, what), NOTHING);
                    }
                }
                for (int what : new int[] {-1, 4, FAR, LOW}) {
                    due("what " + what, x.book(1, what), NOTHING);
                }
            });
            due("the last", x.book(1, 3), NONE);
            x.undo();
            due("undone: no such line", x.book(1, 0), NOTHING);
        });
    }

    private static MoveUp withLines(int lines) {
        MoveUp x = people(4, 3, 3);
        x.come(0);
        for (int i = 1; i < lines; i++) {
            x.come(1);
        }
        return x;
    }

    private static void bookFull() {
        edge(17, "THE BOOK (150 lines; no more then)", () -> {
            MoveUp x = withLines(149);
            due("149", x.look(4), 149);
            due("no 150th", x.book(149, 0), NOTHING);
            x.go(0);
            due("150", x.look(4), 150);
            due("the 150th", x.book(149, 2), 2);
            due("one more comes", x.come(1), 0);
            due("no more", x.look(4), 150);
            due("the 150th stays", x.book(149, 2), 2);
            due("no 151st", x.book(150, 0), NOTHING);
            due("the first stays", x.book(0, 2), 0);
            Texts.tell(x, 2, "go 1 at 0;beg 0 at 0;");
            due("A DAY goes on", x.hours(1), 2);
            due("he SITS", x.of(0, 5), 0);
            due("no more", x.look(4), 150);
            due("the 150th stays", x.book(149, 1), 0);
        });
        edge(26, "THE BOOK (150 lines; no more then)", () -> {
            MoveUp x = withLines(149);
            x.go(0);
            x.come(1);
            due("the 151st ACT", x.undo(), true);
            due("he stands", x.of(1, 5), NONE);
            due("150 lines", x.look(4), 150);
            due("the 150th ACT", x.undo(), true);
            due("he SITS", x.of(0, 5), 0);
            due("149 lines", x.look(4), 149);
            x.go(0);
            due("the 150th again", x.book(149, 2), 2);
        });
    }

    private static void undo() {
        edge(26, "UNDO: the latest ACT or HOUR not undone yet goes back (all of it)", () -> {
            MoveUp x = people(6, 2, 4, 3);
            x.hours(1);
            seat(x, 0, 1);
            x.beg(1);
            x.come(2);
            x.hours(1);
            x.go(0);
            due("the going", x.undo(), true);
            due("SITS again", x.of(0, 5), 0);
            due("its line is gone", x.look(4), 3);
            due("the HOUR", x.undo(), true);
            due("HOUR", x.look(3), 1);
            due("not WARM any more", x.at(0, 1), NONE);
            due("the coming of one who stands", x.undo(), true);
            due("its line is gone", x.look(4), 2);
            due("the begging", x.undo(), true);
            due("he stands", x.of(1, 5), NONE);
            due("the other is where he was", x.of(0, 5), 1);
            due("the coming", x.undo(), true);
            due("he stands", x.of(0, 5), NONE);
            due("the first HOUR", x.undo(), true);
            due("HOUR", x.look(3), 0);
            due("nothing", x.undo(), false);
        });
        edge(26, "the latest ACT or HOUR not undone yet goes back (all of it)", () -> {
            MoveUp x = people(4, 2, 2, 3);
            Texts.tell(x, 2, "come 0 at 0;come 1 at 0;come 2 at 0;go 0 at 1;");
            x.hours(2);
            due("two HOURS", x.look(8), 2);
            x.undo();
            due("who went SITS again", x.of(0, 5), 0);
            due("WARM by the HOUR ahead", x.at(0, 1), 0);
            due("lines", x.look(4), 3);
            x.undo();
            due("nobody SITS", x.look(2), 0);
            due("nothing is WARM", x.at(0, 1), NONE);
            due("no lines", x.look(4), 0);
            due("A DAY stays", x.look(7), 4);
        });
        edge(26, "6 are kept;", () -> {
            MoveUp x = people(9, 1, 1, 1, 1, 1, 1, 1, 1);
            for (int i = 0; i < 5; i++) {
                x.come(i);
            }
            due("five", x.look(8), 5);
            x.come(5);
            due("six", x.look(8), 6);
            x.come(6);
            due("no more than six", x.look(8), 6);
            for (int i = 6; i > 0; i--) {
                due("undo()", x.undo(), true);
                due("that one", x.of(i, 5), NONE);
                due("the one ahead", x.of(i - 1, 5), i - 1);
            }
            due("the seventh", x.undo(), false);
            due("stays", x.of(0, 5), 0);
            x.come(1);
            due("a new one", x.undo(), true);
            due("it alone", x.undo(), false);
            x.hours(60);
            due("six HOURS of sixty", x.look(8), 6);
            for (int i = 0; i < 6; i++) {
                x.undo();
            }
            due("HOUR", x.look(3), 54);
            due("no more", x.undo(), false);
        });
        edge(26, "true; false if there is nothing.", () -> {
            MoveUp x = people(6, 2, 2);
            leavesAll(x, () -> due("undo()", x.undo(), false));
            x.go(0);
            x.come(5);
            x.beg(-1);
            x.hours(0);
            due("what was refused is no ACT", x.undo(), false);
        });
    }

    private static void undoForgets() {
        edge(26, "whatever else is told but LAWS (the taking of THE IMAGE does not) forgets them.", () -> {
            MoveUp x = people(6, 2, 2);
            x.image(true);
            for (int i = 0; i < 9; i++) {
                x.come(1);
                due("one", x.look(8), 1);
                switch (i) {
                    case 0: x.rest(5, true); break;
                    case 1: x.rest(5, false); break;
                    case 2: x.set(0, 0, 2); break;
                    case 3: x.set(4, 1, 1); break;
                    case 4: x.person(1, 0, 0, 0, 1); break;
                    case 5: Texts.tell(x, 2, ""); break;
                    case 6: Texts.tell(x, 2, "go 0 at 3;"); break;
                    case 7: x.bench(6); x.person(2, 0, 0, 0, 1); x.person(2, 0, 0, 0, 1); break;
                    default: x.image(false);
                }
                due("forgotten by " + i, x.look(8), 0);
                due("nothing by " + i, x.undo(), false);
                x.go(1);
                x.set(4, 1, 1);
            }
        });
        edge(26, "whatever else is told but LAWS (the taking of THE IMAGE does not)", () -> {
            MoveUp x = people(6, 2, 2, 6);
            x.come(0);
            Texts.tell(x, 0, "sit at;");
            Texts.tell(x, 1, "cost 1;cost 2;");
            Texts.tell(x, 0, "sit ?;");
            x.image(true);
            due("still one", x.look(8), 1);
            due("undo()", x.undo(), true);
            due("he stands", x.of(0, 5), NONE);
            due("SITTING stays as told", x.look(5), 1);
            due("MOVING stays as told", x.look(6), 2);
            due("by it", x.come(0), 4);
        });
        edge(26, "forgets them.", () -> {
            MoveUp x = busy();
            x.rest(9, true);
            x.rest(4, true);
            x.set(0, 0, 1);
            x.set(4, 3, 1);
            x.person(0, 0, 0, 0, 0);
            x.bench(61);
            x.text(3);
            Texts.tell(x, 2, "go 3 at 1;");
            due("what is refused forgets nothing", x.look(8), 3);
            x.room(2, 0);
            x.rise(2, 0);
            x.stands(0);
            x.orders(0);
            due("nor does a thought", x.look(8), 3);
        });
    }

    private static void image() {
        edge(27, "THE IMAGE is taken (true), or gone back to (false): true; false if there is none.", () -> {
            MoveUp x = busy();
            leavesAll(x, () -> due("there is none", x.image(false), false));
            due("what can be undone stays", x.undo(), true);
            due("taken", x.image(true), true);
            due("what can be undone stays", x.look(8), 2);
            due("gone back to", x.image(false), true);
            due("nothing can be undone then", x.look(8), 0);
            due("undo()", x.undo(), false);
        });
        edge(27, "THE IMAGE: all that is and was told but the TAPE, fault() and what can be undone (nothing then)", () -> {
            MoveUp x = busy();
            x.image(true);
            Texts.put(x, "sit 1;");
            due("gone back to", x.image(false), true);
            due("the TAPE stays", x.end(7), false);
            due("its six bytes", x.end(6), true);
            Texts.tell(x, 0, "sit 1/0;");
            x.come(2);
            x.image(false);
            due("the latest FAULT", x.fault(0), 2);
            due("its place", x.fault(1), 6);
            due("nothing can be undone", x.look(8), 0);
        });
        edge(27, "as it was when it was taken; gone back to it may be more than once.", () -> {
            MoveUp x = busy();
            x.image(true);
            for (int i = 0; i < 3; i++) {
                x.bench(30);
                x.person(20, 15, 10, 9, 0);
                Texts.tell(x, 0, "sit 4;");
                Texts.tell(x, 1, "cost 4;cost 5;");
                Texts.tell(x, 2, "go 0 at 3;");
                x.rest(29, true);
                x.hours(2);
                x.come(0);
                x.go(0);
                x.hours(1);
                x.come(0);
                due("gone back to", x.image(false), true);
                int[] look = {9, 3, 2, 1, 2, 1, 1, 3, 0, 4, 1};
                for (int what = 0; what < look.length; what++) {
                    due("look(" + what + ")", x.look(what), look[what]);
                }
                due("who SITS", x.of(0, 5), 3);
                due("his KEEP", x.of(0, 1), 1);
                due("the other", x.of(1, 5), 7);
                due("the ARM REST", x.at(5, 2), 1);
                due("WARM", x.at(7, 1), 0);
                due("not WARM", x.at(0, 1), NONE);
                int[][] book = {{0, 1, 0, 7}, {0, 0, 0, 3}};
                for (int what = 0; what < 4; what++) {
                    due("THE BOOK's first line", x.book(0, what), book[0][what]);
                    due("its second", x.book(1, what), book[1][what]);
                }
                x.hours(1);
                due("A DAY", x.of(1, 5), NONE);
                due("the LAW", x.come(1), 7);
            }
        });
        edge(27, "THE IMAGE: all that is and was told", () -> {
            MoveUp x = people(9, 3, 2);
            x.rest(4, true);
            Texts.tell(x, 1, "cost 5;");
            x.image(true);
            x.rest(4, false);
            x.rest(6, true);
            due("over the one that was", x.tells(0, 3), 0);
            due("over the new one", x.tells(0, 5), NO_PLACE);
            x.image(false);
            due("over the one that is again", x.tells(0, 3), NO_PLACE);
            due("over the one that is no more", x.tells(0, 5), 0);
            x.image(true);
            x.rest(1, true);
            x.image(false);
            due("told when it was taken anew", x.look(10), 1);
            due("it alone", x.at(4, 2), 1);
        });
        edge(27, "THE IMAGE is taken (true)", () -> {
            MoveUp x = people(5, 2);
            x.image(true);
            x.come(0);
            x.image(true);
            x.go(0);
            x.image(false);
            due("the later one", x.of(0, 5), 0);
            x.bench(3);
            x.image(true);
            x.bench(4);
            x.image(false);
            due("the latest", x.look(0), 3);
        });
    }
}
