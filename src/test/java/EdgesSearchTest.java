import java.io.IOException;
import java.util.List;

/** The edges of rows, of going by habit and of numbers: promises 16 to 27, with the third part of the Terms. */
public final class EdgesSearchTest {
    private static final int[] BAD_AIMS = {Integer.MIN_VALUE, -2, -1, 3, 4, Integer.MAX_VALUE};
    private static final String STILL = "may:1=2;";
    private static Edges edges;

    public static void main(String[] args) throws IOException {
        edges = new Edges("EdgesSearchTest");
        aims();
        cheapest();
        way();
        cheapestOfLike();
        likeRows();
        rows();
        hardest();
        asHard();
        stands();
        at();
        round();
        tidy();
        soon();
        numbers();
        lies();
        stack();
        edges.end(16, 27);
    }

    private static void due(String call, long want, long got) {
        edges.due(call, want, got);
    }

    private static GriddleTurn lying(String laws, int... stack) {
        return Check.told("plate heat 0;" + Texts.cakes(stack) + laws);
    }

    private static void aims() {
        edges.says(Edges.TERMS, "AIM 0: all lie RIGHT; 1: in order, on either side; 2: none burnt side up, in any order.");
        for (int n = 1; n <= 3; n++) {
            for (int[] stack : Texts.stacks(n)) {
                boolean order = true;
                boolean down = true;
                for (int i = 0; i < n; i++) {
                    order &= Math.abs(stack[i]) == i + 1;
                    down &= stack[i] > 0;
                }
                boolean[] so = {order && down, order, down};
                GriddleTurn x = lying("", stack);
                GriddleTurn still = lying(STILL, stack);
                for (int aim = 0; aim < 3; aim++) {
                    String name = Texts.cakes(stack) + " aim " + aim;
                    due(name, so[aim] ? 1 : 0, x.cheapest(aim, 0) == 0 ? 1 : 0);
                    due(name + " of no turns", so[aim] ? 1 : 0, x.rows(aim, 0));
                    due(name + " drawn 0 times", so[aim] ? 1 : 0, x.chance(aim, 0, 0));
                    due(name + " if none may be turned", so[aim] ? 0 : -1, still.cheapest(aim, 1));
                }
            }
        }
    }

    private static void cheapest() {
        edges.says(16, "CHEAPEST to an AIM (0 to 2), what 0: the WORK, 1: how many TURNS (both 0, if it is so now).");
        GriddleTurn one = lying("", -1);
        int[][] want = {{1, 1}, {0, 0}, {1, 1}};
        for (int aim = 0; aim < 3; aim++) {
            for (int what = 0; what < 2; what++) {
                due("cheapest(" + aim + ", " + what + ")", want[aim][what], one.cheapest(aim, what));
                due("of all in order", 0, lying("", 1, 2, 3, 4, 5).cheapest(aim, what));
                due("of all in order, none may be", 0, lying(STILL, 1, 2, 3, 4, 5).cheapest(aim, what));
            }
        }
        edges.says(16, "NONE: it can't be; -2.");
        GriddleTurn still = lying(STILL, 2, -1);
        for (int aim = 0; aim < 3; aim++) {
            for (int what = 0; what < 2; what++) {
                due("cheapest(" + aim + ", " + what + ")", -1, still.cheapest(aim, what));
            }
            for (int what : new int[] {Integer.MIN_VALUE, -1, 2, 3, Integer.MAX_VALUE}) {
                due("cheapest(" + aim + ", " + what + ")", -2, still.cheapest(aim, what));
                due("cheapest(" + aim + ", " + what + ")", -2, one.cheapest(aim, what));
            }
        }
        for (int aim : BAD_AIMS) {
            due("cheapest(" + aim + ", 0)", -2, still.cheapest(aim, 0));
            due("cheapest(" + aim + ", 1)", -2, one.cheapest(aim, 1));
            due("cheapest(" + aim + ", 2)", -2, one.cheapest(aim, 2));
        }
        // by turns of 1 none but the topmost comes to lie otherwise
        GriddleTurn top = lying("may:many=1;", -1, 2, -3);
        due("the lowest is up", -1, top.cheapest(0, 0));
        due("in order", 0, top.cheapest(1, 0));
        due("the lowest is up", -1, top.cheapest(2, 0));
    }

    private static void way() {
        edges.says(17, "Its i-th TURN. NONE: not so many, it can't be; -2: the AIM; -3: i is below 0.");
        // 2 up, 1 by 2: 1 up, 2; by 1: 1, 2
        GriddleTurn x = lying("", -2, 1);
        due("turns", 2, x.cheapest(0, 1));
        due("way(0, 0)", 2, x.way(0, 0));
        due("way(0, 1)", 1, x.way(0, 1));
        GriddleTurn still = lying(STILL, 2, -1);
        GriddleTurn right = lying("", 1, 2);
        for (int i : new int[] {2, 3, 4, 4095, 4096, Integer.MAX_VALUE}) {
            due("way(0, " + i + ")", -1, x.way(0, i));
        }
        for (int aim = 0; aim < 3; aim++) {
            for (int i : new int[] {0, 1, Integer.MAX_VALUE}) {
                due("can't be", -1, still.way(aim, i));
                due("it is so now", -1, right.way(aim, i));
            }
            for (int i : new int[] {-1, -2, Integer.MIN_VALUE}) {
                due("way(" + aim + ", " + i + ")", -3, x.way(aim, i));
                due("ahead of NONE, it can't be", -3, still.way(aim, i));
                due("ahead of NONE, it is so now", -3, right.way(aim, i));
            }
        }
        for (int aim : BAD_AIMS) {
            due("way(" + aim + ", 0)", -2, x.way(aim, 0));
            due("the aim ahead of i", -2, x.way(aim, -1));
            due("the aim ahead of NONE", -2, still.way(aim, 0));
        }
    }

    /** All stacks of one to three, and of four some, against rows looked through in the order of the document. */
    private static void cheapestOfLike() {
        edges.says(Edges.TERMS, "the least WORK of a ROW, of like ones the fewest TURNS, of like ones the first.");
        String[] laws = {"", "may:not many=2;", "may:many>1 or top=1;", "may:many=1 or up<2 or under=0;",
            "may:heat=0 and many<4;"};
        for (String law : laws) {
            for (int n = 1; n <= 4; n++) {
                List<int[]> stacks = Texts.stacks(n);
                for (int s = 0; s < stacks.size(); s += n < 4 ? 1 : 37) {
                    rowOf(Texts.cakes(stacks.get(s)) + law);
                }
            }
        }
    }

    /** Rows of like work and of as many turns: by none of the others would a lesser k come first. */
    private static void likeRows() {
        edges.says(Edges.TERMS, "Of like ROWS the first by k.");
        int like = 0;
        for (int n = 2; n <= 4; n++) {
            Turns turns = new Turns("plate heat 0;", "", n);
            boolean[] down = new boolean[turns.to.length];
            for (int s = 0; s < down.length; s++) {
                down[s] = s % (1 << n) == 0;
            }
            int[] fewest = turns.fewest(down);
            for (int s = 0; s < down.length; s++) {
                GriddleTurn x = lying("", Texts.stacks(n).get(s));
                int at = s;
                for (int i = 0; fewest[at] % Turns.WORK > 0; i++) {
                    int first = 0;
                    int ways = 0;
                    for (int k = n; k >= 1; k--) {
                        int then = turns.to[at][k];
                        if (fewest[then] + turns.work[at][k] * Turns.WORK + 1 == fewest[at]) {
                            first = k;
                            ways++;
                        }
                    }
                    like += ways > 1 ? 1 : 0;
                    due(Texts.cakes(Texts.stacks(n).get(s)) + " way(2, " + i + ")", first, x.way(2, i));
                    at = turns.to[at][first];
                }
            }
        }
        due("there are like rows", 1, like > 0 ? 1 : 0);
    }

    private static void rowOf(String told) {
        String text = "plate heat 0;" + told;
        Plain y = new Plain();
        for (int at = 0; at < text.length(); at += 20) {
            y.feed(Check.four(text, at), Check.four(text, at + 4), Check.four(text, at + 8),
                    Check.four(text, at + 12), Check.four(text, at + 16));
        }
        y.plate(text.length());
        for (int aim = 0; aim < 3; aim++) {
            GriddleTurn x = Check.told(text);
            int turns = y.cheapest(aim, 1);
            due(told + " work to " + aim, y.cheapest(aim, 0), x.cheapest(aim, 0));
            due(told + " turns to " + aim, turns, x.cheapest(aim, 1));
            int work = 0;
            for (int i = 0; i < turns; i++) {
                int k = x.way(aim, i);
                due(told + " way(" + aim + ", " + i + ")", y.way(aim, i), k);
            }
            for (int i = 0; i < turns; i++) {
                work += x.turn(x.way(aim, 0));
            }
            due(told + " turned along it", turns < 0 ? -1 : 0, x.cheapest(aim, 1));
            due(told + " by that work", Math.max(0, y.cheapest(aim, 0)), work);
        }
    }

    private static void rows() {
        edges.says(18, "How many ROWS of just n TURNS (0 to 9) there are behind which it is as an AIM tells. -2; -3.");
        GriddleTurn one = new GriddleTurn();
        GriddleTurn still = lying(STILL, 1, 2);
        for (int n = 0; n <= 9; n++) {
            due("rows(0, " + n + ") of one", n % 2 == 0 ? 1 : 0, one.rows(0, n));
            due("rows(1, " + n + ") of one", 1, one.rows(1, n));
            due("rows(2, " + n + ") of one", n % 2 == 0 ? 1 : 0, one.rows(2, n));
            due("rows(0, " + n + ") if none may be", n == 0 ? 1 : 0, still.rows(0, n));
        }
        GriddleTurn five = lying("", 1, 2, 3, 4, 5);
        due("by one, in order", 1, five.rows(1, 1));
        due("by two, as before", 5, five.rows(0, 2));
        due("by two, in order", 5, five.rows(1, 2));
        // k k l l and k l l k, those with k = l but once
        due("by four, as before", 45, five.rows(0, 4));
        for (int n : new int[] {Integer.MIN_VALUE, -1, 10, 11, Integer.MAX_VALUE}) {
            for (int aim = 0; aim < 3; aim++) {
                due("rows(" + aim + ", " + n + ")", -3, five.rows(aim, n));
            }
        }
        for (int aim : BAD_AIMS) {
            due("rows(" + aim + ", 0)", -2, five.rows(aim, 0));
            due("rows(" + aim + ", 9)", -2, five.rows(aim, 9));
            due("the aim ahead of n", -2, five.rows(aim, 10));
            due("the aim ahead of n", -2, five.rows(aim, -1));
        }
    }

    private static void hardest() {
        edges.says(19, "Of STACKS from which an AIM can be come to, what 0: how HARD the hardest is, 1: its number, the first, "
                + "2: from how many. -2.");
        int[] reach = {0, 2, 8, 48, 384, 3840};
        int[] orders = {0, 1, 2, 6, 24, 120};
        for (int n = 1; n <= 5; n++) {
            int[] stack = new int[n];
            for (int i = 0; i < n; i++) {
                stack[i] = i - n;
            }
            GriddleTurn free = lying("", stack);
            GriddleTurn still = lying(STILL, stack);
            int[] themselves = {1, 1 << n, orders[n]};
            for (int aim = 0; aim < 3; aim++) {
                due("from all of " + n, reach[n], free.hardest(aim, 2));
                due("none may be: 0", 0, still.hardest(aim, 0));
                due("none may be: the first", 0, still.hardest(aim, 1));
                due("none may be: themselves", themselves[aim], still.hardest(aim, 2));
                int most = free.hardest(aim, 0);
                due("the first so hard", most, lying("", Texts.stacks(n).get(free.hardest(aim, 1))).cheapest(aim, 0));
                due("some are so hard", 1, free.asHard(aim, most) > 0 ? 1 : 0);
                due("none is harder", 0, free.asHard(aim, most + 1));
            }
        }
        // one of work 1 by aims 0 and 2, both of 0 by aim 1
        GriddleTurn one = new GriddleTurn();
        int[][] want = {{1, 1, 2}, {0, 0, 2}, {1, 1, 2}};
        for (int aim = 0; aim < 3; aim++) {
            for (int what = 0; what < 3; what++) {
                due("of one " + aim + " " + what, want[aim][what], one.hardest(aim, what));
            }
            for (int what : new int[] {Integer.MIN_VALUE, -1, 3, 4, Integer.MAX_VALUE}) {
                due("hardest(" + aim + ", " + what + ")", -2, one.hardest(aim, what));
            }
        }
        for (int aim : BAD_AIMS) {
            due("hardest(" + aim + ", 0)", -2, one.hardest(aim, 0));
            due("hardest(" + aim + ", 2)", -2, one.hardest(aim, 2));
        }
        firstOfHardest();
        farthest();
    }

    /** Laws of five by which the hardest stacks are very hard, held against all turns that there are. */
    private static void farthest() {
        String[] laws = {"may:top<2+up and not many<3;", "may:not many=under and many>3 or many=under*up-up;",
            "may:many=up*under and many<under*2 or many>3;", "may:many>2 and not 9<up*top;"};
        List<int[]> stacks = Texts.stacks(5);
        for (String law : laws) {
            Turns turns = new Turns("plate heat 0;", law, 5);
            GriddleTurn x = lying(law, 5, 4, 3, 2, 1);
            for (int aim = 0; aim < 3; aim++) {
                boolean[] aimed = new boolean[stacks.size()];
                for (int s = 0; s < aimed.length; s++) {
                    aimed[s] = aim == 0 ? s == 0 : aim == 1 ? s < 32 : s % 32 == 0;
                }
                int[] least = turns.least(aimed);
                int first = 0;
                int from = 0;
                for (int s = 0; s < least.length; s++) {
                    first = least[s] > least[first] ? s : first;
                    from += least[s] >= 0 ? 1 : 0;
                }
                due(law + " hardest(" + aim + ", 0)", least[first], x.hardest(aim, 0));
                due(law + " hardest(" + aim + ", 1)", first, x.hardest(aim, 1));
                due(law + " hardest(" + aim + ", 2)", from, x.hardest(aim, 2));
                for (int s = 0; s < least.length && aim == 0; s += 29) {
                    due(law + " stack(" + s + ", 2)", least[s], x.stack(s, 2));
                }
                for (int s = first % 53; s < least.length; s += 53) {
                    due(law + Texts.cakes(stacks.get(s)) + aim, least[s], lying(law, stacks.get(s)).cheapest(aim, 0));
                }
            }
        }
    }

    /** Of like ones the first number: held against each stack by itself. */
    private static void firstOfHardest() {
        for (String law : new String[] {"", "may:many>1 or up=1;", "may:many=2 or many=3 and top>1;"}) {
            List<int[]> stacks = Texts.stacks(3);
            for (int aim = 0; aim < 3; aim++) {
                int most = -1;
                int first = -1;
                int from = 0;
                for (int s = 0; s < stacks.size(); s++) {
                    int work = lying(law, stacks.get(s)).cheapest(aim, 0);
                    first = work > most ? s : first;
                    most = Math.max(most, work);
                    from += work >= 0 ? 1 : 0;
                }
                GriddleTurn x = lying(law, 3, 1, 2);
                due(law + " hardest(" + aim + ", 0)", most, x.hardest(aim, 0));
                due(law + " hardest(" + aim + ", 1)", first, x.hardest(aim, 1));
                due(law + " hardest(" + aim + ", 2)", from, x.hardest(aim, 2));
            }
        }
    }

    private static void asHard() {
        edges.says(20, "How many STACKS are just so HARD (n 0 and more). -2: the AIM; -3: n is below 0.");
        int[] themselves = {1, 32, 120};
        GriddleTurn five = lying("", 5, 4, 3, 2, 1);
        GriddleTurn still = lying(STILL, 5, 4, 3, 2, 1);
        for (int aim = 0; aim < 3; aim++) {
            due("asHard(" + aim + ", 0)", themselves[aim], five.asHard(aim, 0));
            due("asHard(" + aim + ", 0), none may be", themselves[aim], still.asHard(aim, 0));
            due("asHard(" + aim + ", 1), none may be", 0, still.asHard(aim, 1));
            due("asHard(" + aim + ", far)", 0, five.asHard(aim, Integer.MAX_VALUE));
            int all = 0;
            for (int n = 0; n <= five.hardest(aim, 0); n++) {
                all += five.asHard(aim, n);
            }
            due("all are so hard or so", 3840, all);
            for (int n : new int[] {-1, -2, Integer.MIN_VALUE}) {
                due("asHard(" + aim + ", " + n + ")", -3, five.asHard(aim, n));
                due("asHard(" + aim + ", " + n + "), none may be", -3, still.asHard(aim, n));
            }
        }
        for (int aim : BAD_AIMS) {
            due("asHard(" + aim + ", 0)", -2, five.asHard(aim, 0));
            due("the aim ahead of n", -2, five.asHard(aim, -1));
        }
    }

    private static void stands() {
        edges.says(21, "In how many ways it can lie by some ROW (as it does, too).");
        int[] all = {0, 2, 8, 48, 384, 3840};
        for (int n = 1; n <= 5; n++) {
            int[] stack = new int[n];
            for (int i = 0; i < n; i++) {
                stack[i] = n - i;
            }
            due("all of " + n, all[n], lying("", stack).stands());
            due("none may be", 1, lying(STILL, stack).stands());
            for (int k = 1; k <= n; k++) {
                due("just " + k + " of " + n, 2, lying("may:many=" + k + ";", stack).stands());
            }
        }
        due("there is no way back", 2, lying("may:many=1 and up=0;", 1, 2).stands());
        due("from there none", 1, lying("may:many=1 and up=0;", -1, 2).stands());
    }

    /** Laws by which habit leads far, comes round, stays. */
    private static final String[] HABITS = {"", "habit:top;", "habit:under;", "habit:top+up;", "habit:right+up+1;",
        "habit:top*2+up+under;", "habit:0-top-right;", "habit:up;may:many>1 or top=3;", STILL, "habit:heat;",
        "habit:top+right*up;may:not up=2;"};

    private static void at() {
        edges.says(22, "The STACK's number behind n TURNS GOING (0 to 1,000,000,000,000,000). -3.");
        GriddleTurn one = new GriddleTurn();
        long far = 1000000000000000L;
        due("at(0)", 0, one.at(0));
        due("at(1)", 1, one.at(1));
        due("at(far)", 0, one.at(far));
        due("at(far - 1)", 1, one.at(far - 1));
        for (long n : new long[] {far + 1, far + 2, Long.MAX_VALUE, -1, -2, -far, Long.MIN_VALUE, 1L << 63 | 1}) {
            due("at(" + n + ")", -3, one.at(n));
        }
        due("above 32 bits", 1, one.at((1L << 32) + 1));
        due("above 31 bits", 1, one.at((1L << 31) + 1));
        edges.says(Edges.TERMS, "GOING: TURNS by HABIT, for ever (also if none is turned).");
        leadAndLength();
        for (String law : HABITS) {
            for (int[] stack : new int[][] {{1}, {-2, 1}, {3, 1, -2}, {1, 2, 3}, {2, -4, 1, 3}, {-1, -2, 5, 4, 3}}) {
                going(law, stack, far);
            }
        }
    }

    /** Runs with turns ahead of the round and a round of three and more: no two places of it are taken for another. */
    private static void leadAndLength() {
        int found = 0;
        for (String law : new String[] {"habit:up*3;", "habit:2-up*up;", "habit:under-up*up;"}) {
            for (int[] stack : Texts.stacks(4)) {
                GriddleTurn x = lying(law, stack);
                int lead = x.round(0);
                int length = x.round(1);
                if (lead < 1 || 2 * lead % length == 0) {
                    continue;
                }
                found++;
                GriddleTurn by = lying(law, stack);
                by.habits(lead);
                for (int n = lead; n < lead + 2 * length; n++) {
                    String name = law + Texts.cakes(stack) + " behind " + n;
                    due(name, by.lies(0), x.at(n));
                    due(name + " and very many rounds", by.lies(0), x.at(n + length * 1000000000L));
                    by.habits(1);
                }
            }
        }
        due("there are such runs", 1, found > 0 ? 1 : 0);
    }

    private static void going(String law, int[] stack, long far) {
        String name = law + Texts.cakes(stack);
        GriddleTurn x = lying(law, stack);
        GriddleTurn by = lying(law, stack);
        int lead = x.round(0);
        int length = x.round(1);
        int start = x.lies(0);
        due(name + " a length", 1, length > 0 ? 1 : 0);
        int most = Math.min(lead + 2 * length + 1, 200);
        int[] numbers = new int[most + 1];
        for (int n = 0; n <= most; n++) {
            numbers[n] = by.lies(0);
            due(name + " at(" + n + ")", numbers[n], x.at(n));
            by.habits(1);
        }
        if (lead + length <= most) {
            due(name + " comes round", numbers[lead], numbers[lead + length]);
            for (int n = 0; n < lead; n++) {
                for (int later = n + 1; later <= most; later++) {
                    due(name + " " + n + " never again", 1, numbers[n] == numbers[later] ? 0 : 1);
                }
            }
            for (int n = lead + 1; n < lead + length; n++) {
                due(name + " not sooner round", 1, numbers[n] == numbers[lead] ? 0 : 1);
            }
            for (long n : new long[] {far, far - 1, far - length, far - 12345678901L}) {
                due(name + " at(" + n + ")", numbers[(int) (lead + (n - lead) % length)], x.at(n));
            }
        }
        due("nothing changed", start, x.lies(0));
    }

    private static void round() {
        edges.says(23, "GOING, what 0: behind how many TURNS all is first as it comes round for ever, "
                + "1: behind how many TURNS it does. -2: what.");
        GriddleTurn still = lying(STILL, 2, 1);
        due("none may be: at once", 0, still.round(0));
        due("none may be: each time", 1, still.round(1));
        GriddleTurn one = new GriddleTurn();
        due("one: at once", 0, one.round(0));
        due("one: by two", 2, one.round(1));
        // 1 up, 2 by 2: 2 up, 1; by 1: 2, 1, where it stays
        GriddleTurn x = lying("habit:if top=1 then 2 else up end;", -1, 2);
        due("-1, 2", 2, x.round(0));
        due("length", 1, x.round(1));
        x.turn(2);
        due("-2, 1", 1, x.round(0));
        due("length", 1, x.round(1));
        x.turn(1);
        due("2, 1", 0, x.round(0));
        due("length", 1, x.round(1));
        for (int what : new int[] {Integer.MIN_VALUE, -1, 2, 3, Integer.MAX_VALUE}) {
            due("round(" + what + ")", -2, x.round(what));
        }
    }

    private static void tidy() {
        edges.says(24, "From how many STACKS GOING comes to all lying RIGHT some time (at once, too).");
        for (int n = 1; n <= 5; n++) {
            int[] stack = new int[n];
            for (int i = 0; i < n; i++) {
                stack[i] = n - i;
            }
            due("none may be: just the one", 1, lying(STILL, stack).tidy());
            due("by turns of all: two", 2, lying("habit:" + n + ";", stack).tidy());
        }
        for (String law : HABITS) {
            List<int[]> stacks = Texts.stacks(3);
            int many = 0;
            for (int[] stack : stacks) {
                GriddleTurn x = lying(law, stack);
                for (int i = 0; i < stacks.size() && x.lies(2) < 3; i++) {
                    x.habits(1);
                }
                many += x.lies(2) == 3 ? 1 : 0;
            }
            due(law + " of three", many, lying(law, -2, 3, 1).tidy());
        }
        for (String law : HABITS) {
            due(law + " of four", endRight(law, 4), lying(law, -2, 4, 3, 1).tidy());
            due(law + " of five", endRight(law, 5), lying(law, -2, 5, 4, 3, 1).tidy());
        }
    }

    /** From how many it comes so, each stack being asked where one turn by habit leads. */
    private static int endRight(String law, int n) {
        List<int[]> stacks = Texts.stacks(n);
        int[] next = new int[stacks.size()];
        GriddleTurn x = new GriddleTurn();
        for (int s = 0; s < next.length; s++) {
            // an object is for 512 calls
            x = s % 40 == 0 ? new GriddleTurn() : x;
            Check.tell(x, "plate heat 0;" + Texts.cakes(stacks.get(s)) + law);
            x.habits(1);
            next[s] = x.lies(0);
        }
        int many = 0;
        for (int s = 0; s < next.length; s++) {
            int at = s;
            for (int i = 0; i < next.length && at != 0; i++) {
                at = next[at];
            }
            many += at == 0 ? 1 : 0;
        }
        return many;
    }

    private static void soon() {
        edges.says(25, "Behind how many TURNS GOING all lie RIGHT first (0: they do). NONE: never.");
        due("they do", 0, new GriddleTurn().soon());
        due("they do, and go away", 0, lying("", 1, 2).soon());
        due("by one", 1, lying("", -1).soon());
        due("never, none may be", -1, lying(STILL, -1).soon());
        due("they do, none may be", 0, lying(STILL, 1, 2, 3, 4, 5).soon());
        for (String law : HABITS) {
            for (int[] stack : Texts.stacks(3)) {
                GriddleTurn x = lying(law, stack);
                GriddleTurn by = lying(law, stack);
                int turns = 0;
                while (turns < 48 && by.lies(2) < 3) {
                    by.habits(1);
                    turns++;
                }
                due(law + Texts.cakes(stack), by.lies(2) == 3 ? turns : -1, x.soon());
            }
        }
    }

    private static void numbers() {
        edges.says(Edges.TERMS, "The number of a STACK: PANCAKES from the top on compared by SIZE, the lesser ahead; if all "
                + "SIZES are alike, from the top on burnt side down ahead of up; from 0 on.");
        for (int n = 1; n <= 5; n++) {
            List<int[]> stacks = Texts.stacks(n);
            GriddleTurn x = lying("", stacks.get(0));
            for (int number = 0; number < stacks.size(); number++) {
                if (number % 50 == 0) {
                    x = lying("", stacks.get(0));
                }
                Check.tell(x, "plate heat 0;" + Texts.cakes(stacks.get(number)));
                due(Texts.cakes(stacks.get(number)), number, x.lies(0));
            }
        }
    }

    private static void lies(int[] want, int... stack) {
        GriddleTurn x = lying("", stack);
        for (int what = 0; what < 6; what++) {
            due(Texts.cakes(stack) + " lies(" + what + ")", want[what], x.lies(what));
        }
    }

    private static void lies() {
        edges.says(26, "How it lies, what 0: the STACK's number, 1: how many STACKS there are, 2: how many lie RIGHT");
        int[] all = {0, 2, 8, 48, 384, 3840};
        for (int n = 1; n <= 5; n++) {
            List<int[]> stacks = Texts.stacks(n);
            GriddleTurn first = lying("", stacks.get(0));
            due("the first of " + n, 0, first.lies(0));
            due("all of " + n, all[n], first.lies(1));
            due("all lie right", n, first.lies(2));
            GriddleTurn last = lying("", stacks.get(all[n] - 1));
            due("the last of " + n, all[n] - 1, last.lies(0));
            due("all of " + n, all[n], last.lies(1));
            due("none lies right", 0, last.lies(2));
        }
        edges.says(26, "how many two of which the upper one is greater");
        lies(new int[] {0, 2, 1, 0, 0, 1}, 1);
        lies(new int[] {1, 2, 0, 0, 0, 1}, -1);
        lies(new int[] {7, 8, 0, 1, 1, 1}, -2, -1);
        lies(new int[] {119 * 32, 3840, 0, 10, 1, 3}, 5, 4, 3, 2, 1);
        edges.says(26, "(the lowest on the plate, as if that were 1 greater than the greatest; nothing lies on the topmost), "
                + "whose SIZES differ by more than 1");
        // 3 on 5, 5 on 1, 2 on 4, 4 on the plate, but not 1 on 2
        lies(new int[] {66 * 32, 3840, 0, 5, 4, 2}, 3, 5, 1, 2, 4);
        lies(new int[] {0, 3840, 5, 0, 0, 5}, 1, 2, 3, 4, 5);
        lies(new int[] {32, 3840, 0, 1, 2, 4}, 1, 2, 3, 5, 4);
        lies(new int[] {96 * 32, 3840, 0, 4, 2, 1}, 5, 1, 2, 3, 4);
        edges.says(26, "in how many rounds PANCAKES lie in each other's places (a round by itself, too; the place of SIZE s is "
                + "s - 1 from the top)");
        lies(new int[] {24 * 32, 3840, 3, 1, 1, 4}, 2, 1, 3, 4, 5);
        lies(new int[] {37 * 32, 3840, 0, 4, 5, 1}, 2, 4, 1, 5, 3);
        lies(new int[] {8, 48, 0, 1, 2, 2}, 1, 3, 2);
        edges.says(26, "whose SIZES differ by more than 1, 5: in how many rounds PANCAKES lie in each other's places (a round "
                + "by itself, too; the place of SIZE s is s - 1 from the top). -2.");
        for (int what : new int[] {Integer.MIN_VALUE, -1, 6, 7, Integer.MAX_VALUE}) {
            due("lies(" + what + ")", -2, new GriddleTurn().lies(what));
        }
    }

    private static void stack() {
        edges.says(27, "Of the STACK of a number, what 0: how many lie burnt side up, 1: the SIZE on top, 2: how HARD it is "
                + "for AIM 0 (NONE: it can't be).");
        for (int n = 1; n <= 4; n++) {
            List<int[]> stacks = Texts.stacks(n);
            GriddleTurn x = lying("", stacks.get(0));
            GriddleTurn still = lying(STILL, stacks.get(0));
            for (int number = 0; number < stacks.size(); number += n < 4 ? 1 : 5) {
                int[] stack = stacks.get(number);
                int ups = 0;
                for (int cake : stack) {
                    ups += cake < 0 ? 1 : 0;
                }
                due("ups of " + number, ups, x.stack(number, 0));
                due("top of " + number, Math.abs(stack[0]), x.stack(number, 1));
                due("hardness of " + number, lying("", stack).cheapest(0, 0), x.stack(number, 2));
                due("none may be: " + number, number == 0 ? 0 : -1, still.stack(number, 2));
            }
        }
        edges.says(27, "-2: what; -3: the number.");
        int[] all = {0, 2, 8, 48, 384, 3840};
        for (int n = 1; n <= 5; n++) {
            GriddleTurn x = lying("", Texts.stacks(n).get(0));
            due("the last", n, x.stack(all[n] - 1, 0));
            due("the last", n, x.stack(all[n] - 1, 1));
            due("the last", 1, x.stack(all[n] - 1, 2) > 0 ? 1 : 0);
            for (int what = 0; what < 3; what++) {
                for (int number : new int[] {-1, Integer.MIN_VALUE, all[n], all[n] + 1, Integer.MAX_VALUE}) {
                    due("stack(" + number + ", " + what + ") of " + n, -3, x.stack(number, what));
                }
            }
            for (int what : new int[] {Integer.MIN_VALUE, -1, 3, 4, Integer.MAX_VALUE}) {
                due("stack(0, " + what + ")", -2, x.stack(0, what));
                due("what ahead of the number", -2, x.stack(-1, what));
                due("what ahead of the number", -2, x.stack(all[n], what));
            }
        }
    }
}
