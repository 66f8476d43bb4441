/**
 * Promises 16 to 21. By turns without a law the eight stacks of two pancakes lie in a ring,
 * 0 - 2 - 6 - 4 - 3 - 1 - 5 - 7 - 0, turns of 1 (work: what is on top) and of 2 (work 3) by turns.
 */
public final class CheapestTest {
    private static final Check CHECK = new Check("CheapestTest");
    private static final String[] TWO = {
        "cake 1;cake 2;", "cake 1;cake 2 up;", "cake 1 up;cake 2;", "cake 1 up;cake 2 up;",
        "cake 2;cake 1;", "cake 2;cake 1 up;", "cake 2 up;cake 1;", "cake 2 up;cake 1 up;"};
    private static final int[][] WORK = {{0, 8, 1, 9, 6, 5, 4, 3}, {0, 0, 0, 0, 3, 3, 3, 3}, {0, 4, 1, 3, 0, 5, 2, 3}};

    public static void main(String[] args) {
        ring();
        ways();
        laws();
        fewestOfLike();
        rows();
        hardest();
        stands();
        refused();
        CHECK.end();
    }

    private static void due(String call, long want, long got) {
        CHECK.due(call, want, got);
    }

    private static void ring() {
        for (int stack = 0; stack < 8; stack++) {
            GriddleTurn x = Check.told("plate heat 0;" + TWO[stack]);
            due("number", stack, x.lies(0));
            for (int aim = 0; aim < 3; aim++) {
                due("work of " + stack + " to " + aim, WORK[aim][stack], x.cheapest(aim, 0));
            }
        }
    }

    private static void way(GriddleTurn x, int aim, int work, int... ks) {
        due("work", work, x.cheapest(aim, 0));
        due("turns", ks.length, x.cheapest(aim, 1));
        for (int i = 0; i < ks.length; i++) {
            due("way " + i, ks[i], x.way(aim, i));
        }
        due("way behind its end", -1, x.way(aim, ks.length));
        due("way far behind", -1, x.way(aim, Integer.MAX_VALUE));
    }

    private static void ways() {
        GriddleTurn x = Check.told("plate heat 0;" + TWO[3]);
        // both ways round the ring are of 9 and of four turns: the first by k
        way(x, 0, 9, 1, 2, 1, 2);
        way(x, 1, 0);
        way(x, 2, 3, 2);
        way(Check.told("plate heat 0;" + TWO[5]), 2, 5, 1, 2);
        due("nothing changed", 3, x.lies(0));
        due("no work", 0, x.count(2));
    }

    private static void laws() {
        // from 3 by a turn of 2 only, from then on of 1 if 2 is on top
        GriddleTurn x = Check.told("plate heat 0;" + TWO[3] + "may:many=2 and top=1 and up=2 or [heat=0 and not up=2];");
        way(x, 0, 9, 2, 1, 2, 1);
        // a turn of 1 from 3 on were as cheap, but may not be
        GriddleTurn alike = Check.told("plate heat 0;" + TWO[3] + "may:not [up=2 and top=1 and many=1];");
        way(alike, 0, 9, 2, 1, 2, 1);
        x.heat(1);
        due("can't be", -1, x.cheapest(0, 0));
        due("can't be", -1, x.cheapest(0, 1));
        due("no way", -1, x.way(0, 0));
        due("it is so now", 0, x.cheapest(1, 0));
        way(x, 2, 3, 2);
        x.undo(1);
        way(x, 0, 9, 2, 1, 2, 1);
    }

    /** Of like work the fewest turns, even if a row of more turns is the first by k. */
    private static void fewestOfLike() {
        way(Check.told("plate heat 0;cake 1;cake 2;cake 4 up;cake 3;"), 0, 30, 4, 1, 2, 4);
        way(Check.told("plate heat 0;cake 2;cake 4;cake 3 up;cake 1 up;"), 0, 30, 3, 2, 1, 4);
        way(Check.told("plate heat 0;cake 2;cake 3 up;cake 1;"), 0, 15, 2, 1, 3, 1);
        way(Check.told("plate heat 0;cake 2;cake 3 up;cake 1;"), 1, 11, 2, 3);
    }

    private static void rows() {
        GriddleTurn x = Check.told("plate heat 0;" + TWO[0]);
        long[] round = {1, 0, 2, 0, 6, 0, 20, 0, 72, 0};
        for (int n = 0; n < round.length; n++) {
            due("round the ring by " + n, round[n], x.rows(0, n));
        }
        // in order: 0, 2 and 3, 1, so 2 places of the ring on either side
        due("in order by 1", 1, x.rows(1, 1));
        due("in order by 3", 4, x.rows(1, 3));
        due("none up by 3", 1, x.rows(2, 3));
        due("none up by 4", 6, x.rows(2, 4));
        GriddleTurn law = Check.told("plate heat 0;" + TWO[0] + "may:many=1;");
        due("only of 1", 1, law.rows(0, 8));
        due("only of 1", 0, law.rows(0, 9));
        due("in order", 1, law.rows(1, 9));
        GriddleTurn five = Check.told("plate heat 0;cake 5;cake 4;cake 3;cake 2;cake 1;");
        due("not yet", 0, five.rows(0, 3));
        due("of no turns", 1, five.rows(2, 0));
    }

    private static void hardest() {
        GriddleTurn x = Check.told("plate heat 0;" + TWO[6]);
        int[][] hardest = {{9, 3, 8}, {3, 4, 8}, {5, 5, 8}};
        for (int aim = 0; aim < 3; aim++) {
            for (int what = 0; what < 3; what++) {
                due("hardest " + aim + " " + what, hardest[aim][what], x.hardest(aim, what));
            }
            for (int n = 0; n < 12; n++) {
                int many = 0;
                for (int v : WORK[aim]) {
                    many += v == n ? 1 : 0;
                }
                due("asHard " + aim + " " + n, many, x.asHard(aim, n));
            }
        }
        due("asHard of very much", 0, x.asHard(0, Integer.MAX_VALUE));
        GriddleTurn law = Check.told("plate heat 0;" + TWO[6] + "may:many=heat;");
        due("nothing may be", 0, law.hardest(0, 0));
        due("all of like", 0, law.hardest(0, 1));
        due("only itself", 1, law.hardest(0, 2));
        due("only themselves", 2, law.hardest(2, 2));
        law.heat(1);
        due("by turns of 1", 1, law.hardest(0, 0));
        due("the one", 2, law.hardest(0, 1));
        due("two", 2, law.hardest(0, 2));
        due("of 2 and of 1", 2, law.hardest(2, 0));
        due("asHard", 1, law.asHard(2, 2));
        due("asHard", 2, law.asHard(2, 0));
        law.undo(1);
        due("nothing may be", 0, law.hardest(0, 0));
    }

    private static void stands() {
        due("one", 2, new GriddleTurn().stands());
        GriddleTurn five = Check.told("plate heat 0;cake 5;cake 4;cake 3;cake 2;cake 1;may:many=heat or heat=9;");
        due("none may be", 1, five.stands());
        five.heat(5);
        due("all at once", 2, five.stands());
        five.heat(9);
        due("all", 3840, five.stands());
    }

    private static void refused() {
        GriddleTurn x = new GriddleTurn();
        for (int aim : new int[] {-1, 3}) {
            due("cheapest", -2, x.cheapest(aim, 0));
            due("way", -2, x.way(aim, -1));
            due("rows", -2, x.rows(aim, 10));
            due("hardest", -2, x.hardest(aim, 0));
            due("asHard", -2, x.asHard(aim, -1));
        }
        due("cheapest", -2, x.cheapest(0, 2));
        due("cheapest", -2, x.cheapest(0, -1));
        due("hardest", -2, x.hardest(0, 3));
        due("hardest", -2, x.hardest(0, -1));
        due("way", -3, x.way(0, -1));
        due("rows", -3, x.rows(0, -1));
        due("rows", -3, x.rows(0, 10));
        due("asHard", -3, x.asHard(0, -1));
    }
}
