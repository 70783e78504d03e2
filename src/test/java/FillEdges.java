/** FILL, REST, BLOCK and GIVES: promises 20, 21, 22 and 24. */
final class FillEdges extends Edges {
    private static final int[] WRONG_W = {0, -1, 21, 22, FAR, LOW};
    private static final int[] WRONG_K = {-1, 16, 17, FAR, LOW};

    private FillEdges() {
    }

    static void all() {
        nothingStays();
        fewestAndMost();
        mean();
        stretches();
        keeps();
        byLaw();
        fillWrong();
        bestRest();
        bestRestWrong();
        block();
        blockWrong();
        gives();
        givesWrong();
    }

    private static void nothingStays() {
        edge(20, "IN THOUGHT (nothing of it stays).", () -> {
            MoveUp x = busy();
            leavesAll(x, () -> {
                for (int what = 0; what < 4; what++) {
                    x.fill(1, 0, what);
                }
            });
            due("what can be undone", x.look(8), 3);
        });
        edge(21, "IN THOUGHT (nothing of it stays).", () -> {
            MoveUp x = busy();
            leavesAll(x, () -> x.bestRest(2, 0));
            due("what can be undone", x.look(8), 3);
        });
        edge(22, "IN THOUGHT (nothing of it stays).", () -> {
            MoveUp x = people(7, 1, 2, 2);
            x.come(1);
            leavesAll(x, () -> due("his inch", x.block(0, 2, 0), 3));
            due("what can be undone", x.look(8), 1);
        });
        edge(24, "IN THOUGHT (nothing of it stays).", () -> {
            MoveUp x = busy();
            leavesAll(x, () -> due("who", x.gives(3, 0), 0));
            due("what can be undone", x.look(8), 3);
        });
    }

    /** On an empty bench. */
    private static void fill(int length, int w, int k, int fewest, int most) {
        MoveUp x = people(length);
        due("fewest of " + w + ", " + k + " on " + length, x.fill(w, k, 0), fewest);
        due("most of " + w + ", " + k + " on " + length, x.fill(w, k, 1), most);
    }

    private static void fewestAndMost() {
        edge(20, "until none has one: the fewest, the most that can be", () -> {
            fill(4, 2, 0, 1, 2);
            fill(5, 2, 0, 2, 2);
            fill(7, 2, 0, 2, 3);
            fill(8, 2, 0, 3, 4);
            fill(7, 3, 0, 1, 2);
            fill(8, 3, 0, 2, 2);
            fill(5, 1, 1, 2, 3);
            fill(60, 1, 0, 60, 60);
            fill(60, 20, 0, 2, 3);
            fill(60, 20, 15, 1, 2);
            fill(55, 20, 15, 1, 2);
            fill(54, 20, 15, 1, 1);
            fill(20, 20, 15, 1, 1);
            fill(60, 1, 15, 2, 4);
            fill(1, 1, 15, 1, 1);
        });
        edge(20, "0 without a place.", () -> {
            fill(1, 2, 0, 0, 0);
            fill(19, 20, 0, 0, 0);
            fill(4, 5, 0, 0, 0);
            fill(4, 4, 0, 1, 1);
            MoveUp x = people(6, 6);
            x.come(0);
            for (int what = 0; what < 4; what++) {
                due("all places taken", x.fill(1, 0, what), 0);
            }
            x.go(0);
            for (int rest = 1; rest < 6; rest++) {
                x.rest(rest, true);
            }
            for (int what = 0; what < 4; what++) {
                due("ARM RESTS everywhere", x.fill(2, 0, what), 0);
                due("between them", x.fill(1, 0, what), what == 2 ? 6000 : 6);
            }
        });
        edge(20, "who sit down one by one at any place that they have, nobody moves", () -> {
            MoveUp x = people(9, 1);
            seat(x, 0, 2);
            due("two inches and six: fewest", x.fill(2, 0, 0), 1 + 2);
            due("two inches and six: most", x.fill(2, 0, 1), 1 + 3);
            x.go(0);
            x.rest(3, true);
            due("by an ARM REST: fewest", x.fill(3, 0, 0), 1 + 1);
            due("by an ARM REST: most", x.fill(3, 0, 1), 1 + 2);
            due("too WIDE for one side", x.fill(4, 0, 1), 1);
            due("as WIDE as one side", x.fill(6, 0, 1), 1);
            due("too WIDE for both", x.fill(7, 0, 1), 0);
            due("KEEP goes over it", x.fill(3, 2, 1), 2);
            due("too far to KEEP", x.fill(3, 4, 1), 1);
        });
    }

    private static void mean(int length, int w, int k, int want) {
        due("mean of " + w + ", " + k + " on " + length, people(length).fill(w, k, 2), want);
    }

    private static void mean() {
        edge(20, "in thousandths: of a free stretch 1000 and the mean of both parts, added up over all inches and parted by their number, "
            + "downwards; 0 without a place.", () -> {
            mean(1, 1, 0, 1000);
            mean(1, 2, 0, 0);
            mean(20, 20, 0, 1000);
            mean(60, 1, 0, 60000);
            // 2 + 1 + 2 parted by 3
            mean(4, 2, 0, 1666);
            mean(3, 1, 1, 1666);
            // 1666 downwards inside: (2666 + 2000 + 3000 + 2000 + 2666) / 5
            mean(5, 1, 1, 2466);
            // at 0: 1000 and that of 3 inches, 1000; at 1: 1000 and that of 2 inches, 1000; and so from the right
            mean(5, 2, 0, 2000);
            // at 0: 1000 and that of 4; at 1: 1000 and that of 3; at 2: 1000 and that of 2 twice
            mean(6, 2, 0, (2666 + 2000 + 3000 + 2000 + 2666) / 5);
        });
        edge(20, "on the mean, each place of an inch being as likely", () -> {
            MoveUp x = people(6);
            x.rest(3, true);
            // places at 0, 1, 3, 4; three inches of one side leave one more on the other
            due("by an ARM REST", x.fill(2, 0, 2), 2000);
            x.rest(3, false);
            x.rest(2, true);
            // at 0: 1000 + 1666; at 2: 1000 + 1000 + 1000; at 3: 1000 + 1000; at 4: 1000 + 2000
            due("1 and 4 inches", x.fill(2, 0, 2), (2666 + 3000 + 2000 + 3000) / 4);
        });
    }

    private static void stretches() {
        edge(20, "(Of several free stretches: added.)", () -> {
            MoveUp x = people(12, 2, 1);
            seat(x, 0, 4);
            seat(x, 1, 9);
            // 4 inches, 3 inches, 2 inches
            due("fewest", x.fill(2, 0, 0), 1 + 1 + 1);
            due("most", x.fill(2, 0, 1), 2 + 1 + 1);
            due("mean", x.fill(2, 0, 2), 1666 + 1000 + 1000);
            due("too WIDE for one", x.fill(3, 0, 2), 1000 + 1000);
            due("3 inches, 1 and 1 are left by k", x.fill(1, 1, 2), 1666 + 1000 + 1000);
        });
        edge(20, "Of several free stretches: added.", () -> {
            MoveUp x = people(60, 1, 1, 1, 1, 1, 1, 1, 1, 1, 1);
            for (int i = 0; i < 10; i++) {
                seat(x, i, 6 * i);
            }
            due("ten stretches of five inches", x.fill(5, 0, 1), 10);
            due("the fewest of them", x.fill(2, 0, 0), 20);
            due("the mean of them", x.fill(2, 0, 2), 20000);
            due("too WIDE for each", x.fill(6, 0, 1), 0);
        });
    }

    private static void keeps() {
        edge(20, "FILL by alike ones (WIDE w, KEEP k, no BAG, of no GROUP)", () -> {
            MoveUp x = new MoveUp();
            x.bench(20);
            x.person(2, 3, 1, 4, 1);
            seat(x, 0, 8);
            // 8 inches on the left, 9 on the right of his BAG; his KEEP is 3
            due("his KEEP: just so WIDE", x.fill(6, 0, 1), 1);
            due("his KEEP: an inch too WIDE", x.fill(7, 0, 1), 0);
            due("his KEEP on both sides", x.fill(5, 0, 1), 2);
            due("k is less", x.fill(5, 2, 1), 2);
            due("k is as great", x.fill(5, 3, 1), 2);
            due("k is greater: the left side is too short", x.fill(5, 4, 1), 1);
            due("k is greater: both are", x.fill(5, 5, 1), 0);
            due("k counts at no end", x.fill(4, 4, 1), 2);
        });
        edge(20, "0 without a place.", () -> {
            MoveUp x = new MoveUp();
            x.bench(60);
            x.person(1, 15, 0, 0, 1);
            seat(x, 0, 59);
            for (int what = 0; what < 2; what++) {
                due("all is to the left of him", x.fill(20, 0, what), what + 1);
                due("all of it", x.fill(20, 15, what), 1);
            }
            due("his KEEP is beyond the end", x.fill(20, 0, 2) >= 1000, true);
            x.go(0);
            seat(x, 0, 0);
            due("all is to the right of him", x.fill(20, 0, 1), 2);
            due("his KEEP is ahead of the first inch", x.fill(20, 0, 0), 1);
        });
        edge(20, "the greater KEEP of both at least", () -> {
            MoveUp x = people(9, 1);
            seat(x, 0, 4);
            due("k on both sides", x.fill(2, 2, 1), 2);
            due("k an inch too great", x.fill(2, 3, 1), 0);
        });
    }

    private static void byLaw() {
        edge(20, "LAW's FILL: how many alike ones (w, k; GROUP 0, BAG 0) SIT, one behind the other, by SITTING (HOUR as now).", () -> {
            MoveUp x = people(10, 1);
            due("without a LAW", x.fill(3, 0, 3), 3);
            Texts.tell(x, 0, "sit 1 when at=1 or at=6;");
            due("by at", x.fill(3, 0, 3), 2);
            Texts.tell(x, 0, "sit 1 when at=2 and hour=1;");
            due("HOUR 0", x.fill(3, 0, 3), 3);
            x.hours(1);
            due("HOUR 1", x.fill(3, 0, 3), 2);
            Texts.tell(x, 0, "sit 1 when at=2 and sitting=0;");
            due("the first asks how many SIT", x.fill(3, 0, 3), 2);
            Texts.tell(x, 0, "sit 1 when at=5 and sitting=1;");
            due("the second does: 0, 5 and no more", x.fill(3, 0, 3), 2);
            x.set(0, 0, 1);
            x.set(2, 0, 4);
            x.set(3, 0, 5);
            Texts.tell(x, 0, "sit 1 when at=2 and not (group=0 and bag=0 and friends=0);");
            x.tells(0, 0);
            due("GROUP 0, BAG 0", x.fill(3, 0, 3), 3);
            due("the one who stands has a BAG", x.tells(0, 2), 1);
            Texts.tell(x, 0, "sit 1 when at=2 and wide=3 and keep=1;");
            due("his WIDE and his KEEP", x.fill(3, 1, 3), 2);
            due("another WIDE", x.fill(2, 1, 3), 3);
        });
        edge(20, "3 the LAW's.", () -> {
            MoveUp x = people(60);
            due("all places of the longest bench", x.fill(1, 0, 3), 60);
            due("as far as can be", x.fill(1, 15, 3), 4);
            x.bench(1);
            due("one inch", x.fill(1, 15, 3), 1);
            due("too WIDE", x.fill(2, 0, 3), 0);
            x.person(1, 0, 0, 0, 1);
            x.come(0);
            due("taken", x.fill(1, 0, 3), 0);
        });
    }

    private static void fillWrong() {
        edge(20, "NONE if one can't be (w 1 .. 20, k 0 .. 15), or another what.", () -> {
            MoveUp x = people(60);
            for (int what = 0; what < 4; what++) {
                for (int w : WRONG_W) {
                    due("w " + w, x.fill(w, 0, what), NONE);
                }
                for (int k : WRONG_K) {
                    due("k " + k, x.fill(1, k, what), NONE);
                }
                due("the least", x.fill(1, 0, what), what == 2 ? 60000 : 60);
                due("the greatest w", x.fill(20, 0, what) > 0, true);
                due("the greatest k", x.fill(1, 15, what) > 0, true);
            }
            for (int what : new int[] {-1, 4, 5, FAR, LOW}) {
                due("what " + what, x.fill(1, 0, what), NONE);
            }
        });
    }

    private static void rest(int length, int w, int k, int want) {
        due("bestRest of " + w + ", " + k + " on " + length, people(length).bestRest(w, k), want);
    }

    private static void bestRest() {
        edge(21, "one ARM REST, by which the fewest of FILL is greatest", () -> {
            rest(4, 2, 0, 2);
            rest(2, 1, 0, 0);
            rest(6, 3, 0, 3);
            rest(40, 20, 0, 20);
        });
        edge(21, "of several the least inch", () -> {
            // 3 and 4 leave both sides a place, 2 does not
            rest(7, 3, 0, 3);
        });
        edge(21, "(0: none is better).", () -> {
            rest(1, 1, 0, 0);
            rest(2, 2, 0, 0);
            rest(3, 4, 0, 0);
            rest(4, 4, 0, 0);
            rest(4, 1, 0, 0);
            rest(5, 1, 1, 0);
            rest(5, 2, 0, 0);
            rest(60, 20, 0, 0);
            rest(1, 20, 15, 0);
        });
        edge(21, "on an empty BENCH without others", () -> {
            MoveUp x = people(4, 4);
            due("it is empty", x.bestRest(2, 0), 2);
            x.come(0);
            due("somebody SITS", x.bestRest(2, 0), 2);
            x.go(0);
            x.rest(1, true);
            x.rest(2, true);
            due("others are there, the best one too", x.bestRest(2, 0), 2);
            x.rest(3, true);
            due("all are there", x.bestRest(2, 0), 2);
            due("they stay", x.look(10), 3);
        });
    }

    private static void bestRestWrong() {
        edge(21, "REST; NONE if one can't be.", () -> {
            MoveUp x = people(6);
            for (int w : WRONG_W) {
                due("w " + w, x.bestRest(w, 0), NONE);
            }
            for (int k : WRONG_K) {
                due("k " + k, x.bestRest(2, k), NONE);
            }
            due("the least", x.bestRest(1, 0), 0);
            due("the greatest", x.bestRest(20, 15), 0);
        });
    }

    private static void block() {
        edge(22, "BLOCK: a place of one who stands, after which the most of FILL by (w, k) is least", () -> {
            MoveUp x = people(5, 1, 3);
            due("in the middle", x.block(0, 3, 0), 2);
            due("2 and 2 are left: one less than 4", x.block(0, 2, 0), 1);
            x.rest(3, true);
            due("where he has a place alone", x.block(1, 2, 0), 0);
            MoveUp y = new MoveUp();
            y.bench(7);
            y.person(1, 2, 0, 0, 1);
            due("his KEEP blocks, too", y.block(0, 3, 0), 2);
            MoveUp z = people(7, 1);
            z.set(2, 0, 2);
            due("and his BAG: 2 and 2 are left", z.block(0, 3, 0), 2);
            due("1 and 3 are left", z.block(0, 4, 0), 1);
            due("so does k", y.block(0, 3, 3), 1);
        });
        edge(22, "BLOCK: a place of one who stands, after which the most of FILL by (w, k) is least; of several the least inch.", () -> {
            MoveUp x = people(9, 1, 2);
            due("none fits anyway: the first inch", x.block(0, 10, 0), 0);
            seat(x, 1, 0);
            due("the first place of his", x.block(0, 10, 0), 2);
            due("3 and 4 leave one, so do 5: the least", x.block(0, 3, 0), 3);
        });
    }

    private static void blockWrong() {
        edge(22, "BLOCK; NONE without a place, or if one can't be.", () -> {
            MoveUp x = people(5, 2, 6, 4, 3);
            due("too WIDE", x.block(1, 1, 0), NONE);
            due("just so WIDE", x.block(2, 1, 0), 0);
            for (int w : WRONG_W) {
                due("w " + w, x.block(0, w, 0), NONE);
            }
            for (int k : WRONG_K) {
                due("k " + k, x.block(0, 1, k), NONE);
            }
            for (int p : new int[] {-1, 4, 10, FAR, LOW}) {
                due("block(" + p + ")", x.block(p, 1, 0), NONE);
            }
            due("the greatest", x.block(0, 20, 15), 0);
            x.come(0);
            due("he SITS", x.block(0, 1, 0), NONE);
            due("no place is left", x.block(2, 1, 0), NONE);
            due("one is left", x.block(3, 1, 0), 2);
        });
    }

    private static void gives() {
        edge(24, "GIVES: of those who SIT the one without whom the most of FILL by (w, k) is greatest", () -> {
            MoveUp x = people(10, 2, 3, 2, 3);
            for (int i = 0; i < 4; i++) {
                x.come(i);
            }
            due("all places taken: the first who is WIDE enough", x.gives(3, 0), 1);
            MoveUp y = people(9, 2, 2, 2);
            seat(y, 0, 1);
            seat(y, 1, 3);
            seat(y, 2, 7);
            due("1 between the free ones", y.gives(4, 0), 1);
            due("by k: 2 at the end", y.gives(1, 1), 2);
        });
        edge(24, "of several the least number. DAY's", () -> {
            MoveUp x = people(8, 2, 2, 2);
            seat(x, 2, 0);
            seat(x, 0, 3);
            seat(x, 1, 6);
            due("as many without each", x.gives(2, 0), 0);
            due("none without each", x.gives(8, 0), 0);
            due("the only one", onlyOne(), 3);
        });
    }

    private static int onlyOne() {
        MoveUp x = people(5, 1, 1, 1, 5);
        x.come(3);
        return x.gives(1, 0);
    }

    private static void givesWrong() {
        edge(24, "GIVES; NONE if nobody SITS, or one can't be.", () -> {
            MoveUp x = people(6, 2);
            due("nobody SITS", x.gives(2, 0), NONE);
            x.come(0);
            due("one SITS", x.gives(2, 0), 0);
            for (int w : WRONG_W) {
                due("w " + w, x.gives(w, 0), NONE);
            }
            for (int k : WRONG_K) {
                due("k " + k, x.gives(2, k), NONE);
            }
            due("the least", x.gives(1, 0), 0);
            due("the greatest", x.gives(20, 15), 0);
            x.go(0);
            due("nobody SITS any more", x.gives(2, 0), NONE);
        });
    }
}
