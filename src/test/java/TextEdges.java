/** The TAPE, the TEXTS and their FAULTS: promises 9 to 12. */
final class TextEdges extends Edges {
    private static final String[] WORDS_OF_BOTH = {"wide", "keep", "bag", "group", "hour"};
    private static final String[] WORDS_OF_SITTING = {"at", "left", "right", "warm", "friends", "sitting"};
    private static final String[] KEYWORD = {"sit", "cost"};

    private TextEdges() {
    }

    static void all() {
        feed();
        end();
        cut();
        text();
        noText();
        lines();
        claims();
        units();
        day();
        letters();
        numbers();
        signs();
        faultsByPlace();
        parts();
        persons();
        tooManyLines();
        tooDeep();
        fault();
    }

    /** Two PEOPLE are there. */
    private static MoveUp two() {
        return people(10, 2, 2);
    }

    private static void fine(int k, String text, int lines) {
        MoveUp x = two();
        due("text(" + k + ") of " + text, Texts.tell(x, k, text), lines);
        due("no FAULT in " + text, x.fault(0), 0);
        due("nor a place in " + text, x.fault(1), NONE);
        due("lines of " + text, x.look(5 + k), lines);
    }

    private static void bad(int k, String text, int fault, int place) {
        MoveUp x = two();
        due("text(" + k + ") of " + text, Texts.tell(x, k, text), NONE);
        due("the FAULT of " + text, x.fault(0), fault);
        due("its place in " + text, x.fault(1), place);
        due("lines of " + text, x.look(5 + k), 0);
    }

    /** Of both LAWS: the text is told with sit, and with cost, which is a letter longer. */
    private static void fineBoth(String text, int lines) {
        fine(0, text, lines);
        fine(1, text.replace("sit", "cost"), lines);
    }

    /** A FAULT of both LAWS behind their first KEYWORD. */
    private static void badBoth(String text, int fault, int place) {
        bad(0, text, fault, place);
        int longer = text.substring(0, place).split("sit", -1).length - 1;
        bad(1, text.replace("sit", "cost"), fault, place + longer);
    }

    private static void feed() {
        edge(9, "Twenty bytes come behind the TAPE, of each number the highest first", () -> {
            MoveUp x = people(4, 1);
            due("the first twenty", x.feed('s' << 24 | 'i' << 16 | 't' << 8 | ' ', '7' << 24 | ';' << 16 | 0x8080, -1, LOW, FAR), 20);
            due("they are there", x.end(6), true);
            due("behind six", x.feed('s' << 24 | 'i' << 16 | 't' << 8 | ' ', 0x20202020, 0x20202020, 0x20202020, 0x20200000 | '8' << 8 | ';'), 26);
            due("two lines", x.text(0), 2);
            due("the first", x.tells(0, 0), 7);
        });
        edge(9, "Twenty bytes come behind the TAPE", () -> {
            for (int last = 0; last < 20; last++) {
                MoveUp x = two();
                int[] n = Texts.twenty(" ".repeat(last) + ";", 0);
                x.feed(n[0], n[1], n[2], n[3], n[4]);
                due("a FAULT", x.text(0), NONE);
                due("the place of the byte", x.fault(1), last);
            }
        });
        edge(9, "of each number the highest first: how many it has.", () -> {
            for (int n : new int[] {-1, LOW, FAR, 0x80000020, 0x20202080}) {
                MoveUp x = two();
                due("twenty", x.feed(0x20202020, n, 0x20202020, 0x20202020, 0x20202020), 20);
                x.text(0);
                due("the place of what is no blank", x.fault(1), n == 0x20202080 ? 7 : 4);
            }
        });
        edge(9, "NONE, and nothing comes, if there would be more than 400.", () -> {
            MoveUp x = new MoveUp();
            for (int i = 1; i <= 20; i++) {
                due("how many", x.feed(0x20202020, 0x20202020, 0x20202020, 0x20202020, 0x20202020), 20 * i);
            }
            due("twenty too many", x.feed(-1, -1, -1, -1, -1), NONE);
            due("400 are there", x.end(401), false);
            due("380 of them", x.end(380), true);
            due("400 again", x.feed(0x20202020, 0x20202020, 0x20202020, 0x20202020, 0x20202020), 400);
            x.end(381);
            due("one too many", x.feed(-1, -1, -1, -1, -1), NONE);
            due("nothing came", x.end(382), false);
            due("all 381 are there", x.end(381), true);
            due("nothing but blanks", x.text(0), 0);
            due("empty then: room for twenty", x.feed(0, 0, 0, 0, 0), 20);
        });
        edge(9, "`int feed(int a, int b, int c, int d, int e)`", () -> {
            MoveUp x = busy();
            leavesAll(x, () -> x.feed(1, 2, 3, 4, 5));
            due("what can be undone still can", x.undo(), true);
        });
    }

    private static void end() {
        edge(10, "The TAPE has its first n bytes alone: true;", () -> {
            MoveUp x = new MoveUp();
            Texts.put(x, "sit 12;");
            due("all of them", x.end(7), true);
            due("they stay", x.end(7), true);
            due("six", x.end(6), true);
            due("the seventh is gone", x.end(7), false);
            due("the end is at the sixth", x.text(0), NONE);
            due("where ; is missing", x.fault(1), 6);
        });
        edge(10, "false, changing nothing, if it has not so many, or n is below 0.", () -> {
            MoveUp x = two();
            due("an empty one has none", x.end(0), true);
            for (int n : new int[] {1, -1, 400, FAR, LOW}) {
                due("empty: end(" + n + ")", x.end(n), false);
            }
            Texts.put(x, "sit 7;");
            for (int n : new int[] {7, -1, 20, 400, 401, FAR, LOW}) {
                due("end(" + n + ")", x.end(n), false);
            }
            due("nothing is changed", x.text(0), 1);
            due("by the LAW", x.tells(0, 0), 7);
        });
        edge(10, "its first n bytes alone", () -> {
            MoveUp x = new MoveUp();
            Texts.put(x, "sit 7;");
            due("none", x.end(0), true);
            due("it is empty", x.end(1), false);
            due("an empty TEXT", x.text(0), 0);
            x = busy();
            x.feed(1, 2, 3, 4, 5);
            MoveUp y = x;
            leavesAll(y, () -> y.end(3));
            due("what can be undone still can", x.undo(), true);
        });
    }

    private static void cut() {
        edge(10, "The TAPE has its first n bytes alone", () -> {
            MoveUp x = new MoveUp();
            Texts.put(x, "sit at;");
            x.end(5);
            due("a letter of two", x.text(0), NONE);
            due("is no KEYWORD", x.fault(1), 4);
            Texts.put(x, "sit 12345;");
            x.end(8);
            due("four digits of five", x.text(0), NONE);
            due("are a NUMBER: the end is missing", x.fault(1), 8);
            Texts.put(x, "sit 1;cost;");
            x.end(8);
            due("two letters of four", x.text(0), NONE);
            due("are none", x.fault(1), 6);
        });
        edge(11, "1 what can't stand there (the end: the text's length).", () -> {
            badBoth("sit" + " ".repeat(392) + "wide", 1, 399);
            badBoth("sit" + " ".repeat(395) + "1", 1, 399);
            bad(0, "sit" + " ".repeat(396) + "1", 1, 400);
            bad(0, "sit" + " ".repeat(393) + "wide", 1, 400);
            bad(0, "sit" + " ".repeat(393) + "widt", 1, 396);
            bad(0, "sit" + " ".repeat(396) + "s", 1, 399);
            bad(1, "cost" + " ".repeat(391) + "moved", 1, 400);
            bad(2, "come 0 at" + " ".repeat(388) + "999", 1, 400);
            bad(2, " ".repeat(398) + "go", 1, 400);
        });
    }

    private static void text() {
        edge(11, "The TAPE, empty then, is TEXT k: how many lines.", () -> {
            for (int k = 0; k < 3; k++) {
                String line = new String[] {"sit 1;", "cost 1;", "go 1 at 1;"}[k];
                fine(k, "", 0);
                fine(k, " ", 0);
                fine(k, "\n".repeat(400), 0);
                fine(k, line, 1);
                fine(k, " \n" + line + "\n ", 1);
                fine(k, line + line, 2);
                MoveUp x = two();
                Texts.tell(x, k, line);
                due("the TAPE is empty", x.end(1), false);
                due("an empty TEXT", x.text(k), 0);
                due("no lines", x.look(5 + k), 0);
            }
        });
        edge(11, "how many lines.", () -> {
            fine(0, "sit1" + "+1".repeat(197) + " ;", 1);
            fine(0, " ".repeat(394) + "sit 1;", 1);
            fine(1, "cost 1 when 1=1" + " or 1=1".repeat(54) + " ".repeat(6) + ";", 1);
        });
        edge(11, "The TAPE, empty then, is TEXT k", () -> {
            MoveUp x = people(4, 1);
            for (int i = 1; i < 6; i++) {
                due("400 bytes", Texts.tell(x, 0, "sit " + i + ("+" + i).repeat(197) + ";"), 1);
                due("400 bytes with a FAULT", Texts.tell(x, 0, "sit 9" + "+9".repeat(197) + "+"), NONE);
                due("its place", x.fault(1), 400);
                due("the LAW", x.tells(0, 0), 198 * i);
            }
        });
        edge(11, "or a FAULT (the TEXT stays as it was; the TAPE is empty in each case).", () -> {
            for (int k = 0; k < 3; k++) {
                MoveUp x = two();
                Texts.tell(x, 0, "sit at+1;sit 5;");
                Texts.tell(x, 1, "cost 4;cost 5;");
                Texts.tell(x, 2, "come 0 at 0;go 0 at 1;");
                x.come(1);
                String text = new String[] {"sit 9; sit", "cost 9; cost", "beg 1 at 0; beg"}[k];
                due("a FAULT", Texts.tell(x, k, text), NONE);
                due("the TAPE is empty", x.end(1), false);
                due("lines", x.look(5 + k), 2);
                due("what can be undone still can", x.look(8), 1);
                due("SITTING", x.tells(0, 3), 4);
                seat(x, 0, 1);
                x.person(6, 0, 0, 0, 1);
                due("MOVING", x.room(2, 0), 4);
                x.go(0);
                due("A DAY", x.hours(1), 1);
            }
        });
    }

    private static void noText() {
        edge(11, "NONE: no such one (fault() tells 0)", () -> {
            for (int k : new int[] {-1, 3, 4, FAR, LOW}) {
                MoveUp x = busy();
                due("the latest FAULT", x.fault(0), 1);
                Texts.put(x, "sit ?;");
                due("text(" + k + ")", x.text(k), NONE);
                due("its FAULT", x.fault(0), 0);
                due("its place", x.fault(1), NONE);
                due("the TAPE is empty", x.end(1), false);
                due("what can be undone stays", x.look(8), 3);
                due("the LAWS stay", x.look(5) + 10 * x.look(6) + 100 * x.look(7), 311);
            }
        });
    }

    private static void lines() {
        edge(11, "0 THE LAW OF SITTING = {sit E [when B] ;}", () -> {
            fine(0, "sit 1 when 1=1;sit 2;sit 3 when 2=2;", 3);
            bad(0, ";", 1, 0);
            bad(0, "1;", 1, 0);
            bad(0, "cost 1;", 1, 0);
            bad(0, "come 0 at 1;", 1, 0);
            bad(0, "when 1=1;", 1, 0);
            bad(0, "sit 1; cost 1;", 1, 7);
            bad(0, "sit 1;;", 1, 6);
        });
        edge(11, "1 OF MOVING = {cost E [when B] ;}", () -> {
            fine(1, "cost 1 when 1=1;cost 2;cost 3 when 2=2;", 3);
            bad(1, "sit 1;", 1, 0);
            bad(1, "go 0 at 1;", 1, 0);
            bad(1, "cost 1; sit 1;", 1, 8);
        });
        edge(11, "sit E [when B] ;", () -> {
            badBoth("sit;", 1, 3);
            badBoth("sit when 1=1;", 1, 4);
            badBoth("sit 1 when;", 1, 10);
            badBoth("sit 1 when 1=1 when 1=1;", 1, 15);
            badBoth("sit 1 1=1;", 1, 6);
            badBoth("sit 1 sit 1;", 1, 6);
            badBoth("sit sit 1;", 1, 4);
            badBoth("sit 1", 1, 5);
            badBoth("sit 1 when 1=1", 1, 14);
        });
    }

    private static void claims() {
        edge(11, "B = A {or A}.", () -> {
            fineBoth("sit 1 when 1=1 or 1=2 or 1=3;", 1);
            badBoth("sit 1 when or 1=1;", 1, 11);
            badBoth("sit 1 when 1=1 or;", 1, 17);
            badBoth("sit 1 when 1=1 or or 1=1;", 1, 18);
        });
        edge(11, "A = C {and C}.", () -> {
            fineBoth("sit 1 when 1=1 and 1=2 and 1=3;", 1);
            badBoth("sit 1 when and 1=1;", 1, 11);
            badBoth("sit 1 when 1=1 and;", 1, 18);
            badBoth("sit 1 when 1=1 and or 1=1;", 1, 19);
        });
        edge(11, "C = E (< | = | >) E | not C | ( B ).", () -> {
            fineBoth("sit 1 when 1<2;sit 1 when 1=2;sit 1 when 1>2;", 3);
            fineBoth("sit 1 when not 1<2;sit 1 when (1<2);sit 1 when not(not 1<2);", 3);
            badBoth("sit 1 when 1;", 1, 12);
            badBoth("sit 1 when 1<;", 1, 13);
            badBoth("sit 1 when <2;", 1, 11);
            badBoth("sit 1 when 1<2<3;", 1, 14);
            badBoth("sit 1 when 1<=3;", 1, 13);
            badBoth("sit 1 when 1==3;", 1, 13);
            badBoth("sit 1 when not;", 1, 14);
            badBoth("sit 1 when ();", 1, 12);
            badBoth("sit 1 when (1);", 1, 13);
            badBoth("sit 1 when (1<2;", 1, 15);
            badBoth("sit 1 when 1<2);", 1, 14);
            badBoth("sit 1 when (1<2)=1;", 1, 16);
            badBoth("sit 1 when (1)<2;", 1, 13);
            badBoth("sit 1 when 1<not 2;", 1, 13);
            badBoth("sit 1 when 1<(2);", 1, 13);
        });
    }

    private static void units() {
        edge(11, "E = T {(+ | -) T}.", () -> {
            fineBoth("sit 1+2-3+4;", 1);
            badBoth("sit +1;", 1, 4);
            badBoth("sit -1;", 1, 4);
            badBoth("sit 1+;", 1, 6);
            badBoth("sit 1--2;", 1, 6);
            badBoth("sit (1);", 1, 4);
            badBoth("sit 1+(1);", 1, 6);
        });
        edge(11, "T = U {* U | / NUMBER}.", () -> {
            fineBoth("sit 1*wide*2/3*bag/4;", 1);
            badBoth("sit *1;", 1, 4);
            badBoth("sit /1;", 1, 4);
            badBoth("sit 1*;", 1, 6);
            badBoth("sit 1/;", 1, 6);
            badBoth("sit 1*/2;", 1, 6);
            badBoth("sit 1/wide;", 1, 6);
            badBoth("sit 1/2/keep;", 1, 8);
        });
        edge(11, "U = NUMBER | wide | keep | bag | group | hour, of SITTING besides | at | left | right | warm | friends | sitting, "
            + "of MOVING | moved.", () -> {
            for (String word : WORDS_OF_BOTH) {
                fineBoth("sit " + word + ";", 1);
            }
            for (String word : WORDS_OF_SITTING) {
                fine(0, "sit " + word + ";", 1);
                bad(1, "cost " + word + ";", 1, 5);
                bad(1, "cost 1*" + word + " when 1/0=1;", 1, 7);
            }
            fine(1, "cost moved;", 1);
            bad(0, "sit moved;", 1, 4);
            for (String word : new String[] {"sit", "cost", "when", "or", "and", "not", "come", "go", "beg", "person", "number"}) {
                badBoth("sit 2+" + word + ";", 1, 6);
            }
        });
    }

    private static void day() {
        edge(11, "2 A DAY = {(come | go | beg) PERSON at HOUR ;}", () -> {
            fine(2, "come 0 at 1;go 1 at 2;beg 1 at 3;", 3);
            for (String word : new String[] {"sit", "cost", "when", "or", "and", "not", "at", "moved", "person", ";", "0", "="}) {
                bad(2, word + " 0 at 1;", 1, 0);
            }
            for (String word : WORDS_OF_BOTH) {
                bad(2, word + " 0 at 1;", 1, 0);
                bad(2, "go 0 " + word + " 1;", 1, 5);
            }
            for (String word : WORDS_OF_SITTING) {
                bad(2, word + " 0 at 1;", 1, 0);
            }
            bad(2, "0 at 1;", 1, 0);
            bad(2, "come at 1;", 1, 5);
            bad(2, "come wide at 1;", 1, 5);
            bad(2, "come 0 1;", 1, 7);
            bad(2, "come 0 when 1;", 1, 7);
            bad(2, "come 0 0 at 1;", 1, 7);
            bad(2, "come 0 at;", 1, 9);
            bad(2, "come 0 at hour;", 1, 10);
            bad(2, "come 0 at 1", 1, 11);
            bad(2, "come 0 at 1+1;", 1, 11);
            bad(2, "come 0 at 1;;", 1, 12);
            bad(2, "come 0 at 1; come", 1, 17);
        });
        edge(11, "(HOUR 0 .. 999.)", () -> {
            fine(2, "come 0 at 0;", 1);
            fine(2, "come 0 at 999;", 1);
            fine(2, "come 0 at 0999;", 1);
            bad(2, "come 0 at 1000;", 2, 10);
            bad(2, "come 0 at 9999;", 2, 10);
        });
    }

    private static void letters() {
        edge(11, "TOKENS: letters as many as stand together are KEYWORDS (those told here for that text) or none", () -> {
            fineBoth("sit 1when 1=1or 1=1and not 1=1;", 1);
            badBoth("sit1 when1=1or1=1andwide=1;", 1, 17);
            bad(0, "sitat;", 1, 0);
            bad(0, "si t 1;", 1, 0);
            bad(0, "sits 1;", 1, 0);
            bad(0, "it 1;", 1, 0);
            bad(0, "Sit 1;", 1, 0);
            bad(0, "sitA 1;", 1, 0);
            bad(0, "sitZ;", 1, 0);
            bad(0, "sitz;", 1, 0);
            bad(0, "sit a;", 1, 4);
            bad(0, "sit atat;", 1, 4);
            bad(0, "sit widely;", 1, 4);
            bad(0, "sit sittin;", 1, 4);
            bad(0, "sit WIDE;", 1, 4);
            bad(2, "comego 0 at 1;", 1, 0);
            bad(2, "come0at1;go0at2;b", 1, 16);
            fine(2, "come0at1;go0at2;", 2);
        });
    }

    private static void numbers() {
        edge(11, "digits as many as stand together NUMBERS of 1 to 4 digits or none", () -> {
            fineBoth("sit 0;sit 9;sit 9999;sit 0000;sit 0001;", 5);
            badBoth("sit 10000;", 1, 4);
            badBoth("sit 00000;", 1, 4);
            badBoth("sit 00001;", 1, 4);
            badBoth("sit 1234567890123;", 1, 4);
            badBoth("sit 1 2;", 1, 6);
            badBoth("sit 1/00000;", 1, 6);
            fineBoth("sit 1/0001;sit 1/9999;", 2);
            bad(2, "go 00000 at 1;", 1, 3);
            bad(2, "go 0 at 00001;", 1, 8);
            fine(2, "go 0001 at 0001;", 1);
        });
    }

    private static void signs() {
        edge(11, "; + - * / ( ) < = > .", () -> {
            for (int sign = 0; sign < 256; sign++) {
                boolean blank = sign == 32 || sign == 10;
                boolean digit = sign >= '0' && sign <= '9';
                boolean letter = sign >= 'a' && sign <= 'z' || sign >= 'A' && sign <= 'Z';
                if (blank || digit) {
                    fine(0, "sit 1" + (char) sign + ";", 1);
                } else if (sign == ';') {
                    bad(0, "sit 1;;", 1, 6);
                } else if ("+-*/".indexOf(sign) >= 0) {
                    bad(0, "sit 1" + (char) sign + ";", 1, 6);
                    fine(0, "sit 1" + (char) sign + "1;", 1);
                } else {
                    bad(0, "sit 1" + (char) sign + ";", 1, 5);
                    bad(0, "sit" + (char) sign + " 1;", 1, letter ? 0 : 3);
                }
            }
        });
        edge(11, "Blanks (32, 10) between.", () -> {
            fine(0, "\n sit\n\n1  when \n 1 < 2 ; \n", 1);
            fine(0, "sit1when(1<2);", 1);
            for (char sign : new char[] {9, 11, 12, 13, 0, 31, 33, 160, 255}) {
                bad(0, "sit" + sign + "1;", 1, 3);
                bad(0, "sit 1;" + sign, 1, 6);
                bad(2, sign + "go 0 at 1;", 1, 0);
            }
        });
    }

    private static void faultsByPlace() {
        edge(11, "FAULTS, the first by its place, at one place the least", () -> {
            badBoth("sit 1/0+?;", 2, 6);
            badBoth("sit ?+1/0;", 1, 4);
            badBoth("sit 1/0 1/0;", 2, 6);
            badBoth("sit 1/00000;", 1, 6);
            badBoth("sit 1;".repeat(16) + "?", 1, 96);
            badBoth("sit 1;".repeat(16) + "sit ?", 3, 96);
            badBoth("sit 1;".repeat(15) + "sit ?;sit 1;", 1, 94);
            badBoth("sit 1 when ((((((((( ?", 3, 19);
            badBoth("sit 1 when ((((((((? (", 1, 19);
            bad(2, "go 2 at 1000;", 2, 3);
            bad(2, "go 0 on 1000;", 1, 5);
            bad(2, "go 0 at 1000", 2, 8);
        });
        edge(11, "1 what can't stand there (the end: the text's length).", () -> {
            for (int k = 0; k < 2; k++) {
                String word = KEYWORD[k];
                bad(k, word, 1, word.length());
                bad(k, word + " \n ", 1, word.length() + 3);
                bad(k, word + " 1" + " ".repeat(398 - word.length()), 1, 400);
                bad(k, word + "+".repeat(400 - word.length()), 1, word.length());
                bad(k, word + "0" + "+0".repeat(196) + " ".repeat(7 - word.length()), 1, 400);
            }
            bad(2, "come", 1, 4);
            bad(2, "come 0 at 1 ", 1, 12);
        });
    }

    private static void parts() {
        edge(11, "2 (at the NUMBER) a part by 0", () -> {
            badBoth("sit 1/0;", 2, 6);
            badBoth("sit 1 / 0000 ;", 2, 8);
            badBoth("sit 1/1/0;", 2, 8);
            badBoth("sit 1 when 1=1/0;", 2, 15);
            fineBoth("sit 1/1;", 1);
            fineBoth("sit 0/1;sit 0*0;", 2);
        });
    }

    private static void persons() {
        edge(11, "a PERSON that there is not, an HOUR above 999.", () -> {
            fine(2, "go 0 at 1;go 1 at 1;", 2);
            bad(2, "go 2 at 1;", 2, 3);
            bad(2, "go 9999 at 1;", 2, 3);
            MoveUp x = new MoveUp();
            due("nobody is there", Texts.tell(x, 2, "go 0 at 1;"), NONE);
            due("the FAULT", x.fault(0), 2);
            due("its place", x.fault(1), 3);
            for (int i = 0; i < 10; i++) {
                x.person(1, 0, 0, 0, 1);
            }
            due("ten are there", Texts.tell(x, 2, "go 9 at 1;"), 1);
            due("no eleventh", Texts.tell(x, 2, "go 10 at 1;"), NONE);
            due("the FAULT", x.fault(0), 2);
            x.bench(5);
            due("told anew: nobody", Texts.tell(x, 2, "go 0 at 1;"), NONE);
        });
    }

    private static void tooManyLines() {
        edge(11, "3 (at its KEYWORD) the 17th line of a LAW", () -> {
            fineBoth("sit 1;".repeat(16), 16);
            badBoth("sit 1;".repeat(17), 3, 96);
            badBoth("sit 1;".repeat(16) + " \nsit", 3, 98);
            badBoth("sit 1;".repeat(16) + "when", 1, 96);
            badBoth("sit 1;".repeat(30), 3, 96);
        });
        edge(11, "the 25th of A DAY", () -> {
            fine(2, "go 1 at 1;".repeat(24), 24);
            bad(2, "go 1 at 1;".repeat(25), 3, 240);
            bad(2, "go 1 at 1;".repeat(24) + " beg", 3, 241);
            bad(2, "go 1 at 1;".repeat(24) + " sit", 1, 241);
            bad(2, "go 1 at 1;".repeat(40), 3, 240);
        });
    }

    private static void tooDeep() {
        edge(11, "(at it) the 9th ( or not that is open.", () -> {
            fineBoth("sit 1 when " + "(".repeat(8) + "1=1" + ")".repeat(8) + ";", 1);
            badBoth("sit 1 when " + "(".repeat(9) + "1=1" + ")".repeat(9) + ";", 3, 19);
            fineBoth("sit 1 when " + "not ".repeat(8) + "1=1;", 1);
            badBoth("sit 1 when " + "not ".repeat(9) + "1=1;", 3, 43);
            fineBoth("sit 1 when " + "not(".repeat(4) + "1=1" + ")".repeat(4) + ";", 1);
            badBoth("sit 1 when " + "not(".repeat(4) + "not 1=1))));", 3, 27);
            badBoth("sit 1 when " + "not(".repeat(4) + "(1=1)))));", 3, 27);
            badBoth("sit 1 when " + "(".repeat(200), 3, 19);
        });
        edge(11, "the 9th ( or not that is open.", () -> {
            fineBoth("sit 1 when (1=1)" + " or (1=1)".repeat(12) + ";", 1);
            fineBoth("sit 1 when not 1=1" + " and not 1=1".repeat(12) + ";", 1);
            fineBoth("sit 1 when " + "(".repeat(8) + "1=1) and (1=1) or (1=1)" + ")".repeat(7) + ";", 1);
            fineBoth("sit 1 when " + "(".repeat(7) + "not 1=1 and not 1=1 or not 1=1" + ")".repeat(7) + ";", 1);
            badBoth("sit 1 when " + "(".repeat(8) + "1=1) and (not 1=1", 3, 29);
            fineBoth("sit 1 when ((((((((1=1))))))));".repeat(2), 2);
        });
    }

    private static void fault() {
        edge(12, "Of the latest text() what 0 the FAULT (0 without one), 1 its place (NONE).", () -> {
            MoveUp x = two();
            due("no text() yet: the FAULT", x.fault(0), 0);
            due("no text() yet: its place", x.fault(1), NONE);
            Texts.tell(x, 0, ";");
            due("the FAULT", x.fault(0), 1);
            due("its place", x.fault(1), 0);
            Texts.tell(x, 2, "go 1 at 1000;");
            due("the FAULT of the later one", x.fault(0), 2);
            due("its place", x.fault(1), 8);
            x.come(0);
            x.undo();
            x.image(true);
            x.image(false);
            x.feed(0, 0, 0, 0, 0);
            due("it stays till the next text()", x.fault(0), 2);
            Texts.tell(x, 1, "");
            due("without one", x.fault(0), 0);
            due("no place", x.fault(1), NONE);
        });
        edge(12, "NONE for another what.", () -> {
            MoveUp x = two();
            Texts.tell(x, 0, "sit 1/0;");
            for (int what : new int[] {-1, 2, 3, FAR, LOW}) {
                due("fault(" + what + ")", x.fault(what), NONE);
            }
        });
    }
}
