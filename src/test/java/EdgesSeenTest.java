import java.io.IOException;
import java.util.ArrayList;
import java.util.List;

/** The edges of what was seen, of forcing and of chances: promises 28 to 36. */
public final class EdgesSeenTest {
    private static final int[] BAD_TRAYS = {Integer.MIN_VALUE, -2, -1, 4, 5, Integer.MAX_VALUE};
    private static final int[] BELOW = {-1, -2, Integer.MIN_VALUE};
    private static final String STILL = "may:1=2;";
    private static Edges edges;

    private interface Call {
        long on(GriddleTurn x, int tray);
    }

    public static void main(String[] args) throws IOException {
        edges = new Edges("EdgesSeenTest");
        seen();
        seenBy();
        turned();
        allRows();
        heats();
        attempt();
        forces();
        best();
        forcing();
        chance();
        mean();
        edges.end(28, 36);
    }

    private static void due(String call, long want, long got) {
        edges.due(call, want, got);
    }

    private static GriddleTurn lying(String laws, int... stack) {
        return Check.told("plate heat 0;" + Texts.cakes(stack) + laws);
    }

    /** The refusals that all calls by a tray of sizes share; 0 is the least that can be told, or 1. */
    private static void refusals(String name, Call call, int least) {
        GriddleTurn x = lying("", 1, 2, 3);
        for (int tray : BAD_TRAYS) {
            due(name + " of tray " + tray, -2, call.on(x, tray));
        }
        for (int tray = 0; tray < 4; tray++) {
            due(name + " of a missing tray " + tray, -6, call.on(x, tray));
        }
        for (int n = 0; n <= 40; n++) {
            x = lying("", 1, 2, 3);
            x.numbers(3, 0, n);
            // all 0, so that what can't be is told ahead of what is no size
            if (n < 1 || n > 8) {
                due(name + " of " + n, -4, call.on(x, 3));
            } else {
                due(name + " of " + n + " times 0", least == 0 ? 1 : 0, call.on(x, 3) == -3 ? 0 : 1);
            }
            if (n > 0) {
                x.write(3, n - 1, 9);
                due(name + " of " + n + ", one is no size", n > 8 ? -4 : -3, call.on(x, 3));
            }
        }
        sizes(name, call, least);
    }

    private static void sizes(String name, Call call, int least) {
        for (int cakes = 1; cakes <= 5; cakes++) {
            GriddleTurn x = lying("", Texts.stacks(cakes).get(0));
            for (int at = 0; at < 8; at += 7) {
                x.numbers(0, 3, 8);
                for (int i = 0; i < 8; i++) {
                    x.write(0, i, 1);
                }
                long[] told = {Long.MIN_VALUE, Integer.MIN_VALUE, -1, 0, 1, cakes, cakes + 1, 5, 6, 1L << 32,
                    (1L << 32) + 1, -(1L << 32) + 1, Integer.MAX_VALUE, Long.MAX_VALUE};
                for (long v : told) {
                    x.write(0, at, v);
                    boolean refused = v < least || v > cakes;
                    due(name + " of size " + v + " at " + at + ", there are " + cakes, refused ? 1 : 0,
                            call.on(x, 0) == -3 ? 1 : 0);
                }
            }
        }
    }

    private static void seen() {
        edges.says(28, "SEEN: how many ROWS. -2: the TRAY; -6; -4: not 1 to 8 numbers; -3: one is no SIZE of these nor 0.");
        refusals("seen", (x, tray) -> x.seen(tray), 0);
        for (int cakes = 1; cakes <= 5; cakes++) {
            GriddleTurn x = lying("", Texts.stacks(cakes).get(0));
            GriddleTurn still = lying(STILL, Texts.stacks(cakes).get(0));
            long all = 1;
            for (int n = 1; n <= 8; n++) {
                all *= cakes;
                x.numbers(0, 0, n);
                still.numbers(0, 0, n);
                due("nothing seen of " + n + " turns", all, x.seen(0));
                due("none may be turned", 0, still.seen(0));
            }
            due("nothing changed", 0, x.lies(0));
        }
    }

    private static void seenBy() {
        edges.says(29, "The i-th TURN of the first of these. NONE: not so many, there are none; as seen(); -3: also i is below 0.");
        for (int i : new int[] {-1, 0, 7, 8, Integer.MIN_VALUE, Integer.MAX_VALUE}) {
            refusalsBut("seenBy with i " + i, i, (x, tray) -> x.seenBy(tray, i));
        }
        GriddleTurn x = lying("", 1, 2);
        GriddleTurn still = lying(STILL, 1, 2);
        for (int n = 1; n <= 8; n++) {
            x.numbers(0, 0, n);
            x.write(0, n - 1, 2);
            still.numbers(0, 0, n);
            for (int i = 0; i < n; i++) {
                due("seenBy " + i + " of " + n, i < n - 1 ? 1 : 2, x.seenBy(0, i));
                due("there are none", -1, still.seenBy(0, i));
            }
            for (int i : new int[] {n, n + 1, 8, 9, 40, Integer.MAX_VALUE}) {
                due("seenBy " + i + " of " + n, -1, x.seenBy(0, i));
                due("there are none, nor so many", -1, still.seenBy(0, i));
            }
            for (int i : BELOW) {
                due("seenBy " + i + " of " + n, -3, x.seenBy(0, i));
                due("ahead of NONE", -3, still.seenBy(0, i));
            }
        }
    }

    private static void turned() {
        edges.says(30, "Of how many the i-th TURN can have been in some of these, as bits (bit k; 0: there are none).");
        // the first turn can be, the second can't: so there are none at all
        GriddleTurn end = lying("may:up=1;", -1);
        end.numbers(0, 0, 1);
        due("one turn can be", 2, end.turned(0, 0));
        due("by 1", 1, end.seenBy(0, 0));
        end.numbers(0, 0, 2);
        due("no second one", 0, end.seen(0));
        for (int i = 0; i < 2; i++) {
            due("so not the first one either", 0, end.turned(0, i));
            due("none", -1, end.seenBy(0, i));
        }
        // by 2 first there is no way on, by 1 there is: 1 up, 2 leads to 1, 2 where 2 may be turned
        GriddleTurn fork = lying("may:top=1 and [many=1 and up=1 or many=2];", -1, 2);
        Check.fillTray(fork, 0, 0, 0, 2);
        due("by one row", 1, fork.seen(0));
        due("by 1 alone", 2, fork.turned(0, 0));
        due("by 2 alone", 4, fork.turned(0, 1));
        due("by 1", 1, fork.seenBy(0, 0));
        due("by 2", 2, fork.seenBy(0, 1));
        for (int cakes = 1; cakes <= 5; cakes++) {
            GriddleTurn x = lying("", Texts.stacks(cakes).get(0));
            GriddleTurn still = lying(STILL, Texts.stacks(cakes).get(0));
            for (int n = 1; n <= 8; n++) {
                x.numbers(0, 0, n);
                still.numbers(0, 0, n);
                for (int i = 0; i < n; i++) {
                    due("turned " + i + " of " + n, (2 << cakes) - 2, x.turned(0, i));
                    due("there are none", 0, still.turned(0, i));
                }
            }
        }
        edges.says(30, "As seen(); -3: also i is below 0; -7: there is no such TURN.");
        for (int i : new int[] {-1, 0, 7, 8, Integer.MIN_VALUE, Integer.MAX_VALUE}) {
            refusalsBut("turned with i " + i, i, (x, tray) -> x.turned(tray, i));
        }
        GriddleTurn x = lying("", 1, 2);
        GriddleTurn still = lying(STILL, 1, 2);
        for (int n = 1; n <= 8; n++) {
            x.numbers(0, 0, n);
            still.numbers(0, 0, n);
            due("the last", 6, x.turned(0, n - 1));
            for (int i : new int[] {n, n + 1, 31, 32, Integer.MAX_VALUE}) {
                due("turned " + i + " of " + n, -7, x.turned(0, i));
                due("ahead of none", -7, still.turned(0, i));
            }
            for (int i : BELOW) {
                due("turned " + i + " of " + n, -3, x.turned(0, i));
                due("ahead of none", -3, still.turned(0, i));
            }
        }
    }

    /** Where i can be anything: what is told of the tray comes ahead of it. */
    private static void refusalsBut(String name, int i, Call call) {
        GriddleTurn x = lying("", 1, 2);
        for (int tray : BAD_TRAYS) {
            due(name + " of tray " + tray, -2, call.on(x, tray));
        }
        due(name + " of a missing tray", -6, call.on(x, 3));
        for (int n : new int[] {0, 9, 40}) {
            x.numbers(3, 1, n);
            due(name + " of " + n, -4, call.on(x, 3));
        }
        Check.fillTray(x, 3, 1, 1, 1, 1, 1, 1, 1, 1, 1, 3);
        due(name + " of 9, one is no size", -4, call.on(x, 3));
        Check.fillTray(x, 3, 1, 1, 1, 1, 1, 1, 1, 1, 3);
        due(name + " of 8, one is no size", -3, call.on(x, 3));
        Check.fillTray(x, 3, 1, -1, 1, 1, 1, 1, 1, 1, 1);
        due(name + " of 8, one is below 0", -3, call.on(x, 3));
        Check.fillTray(x, 3, 1, 0, 1, 2, 0, 1, 2, 0, 1);
        due(name + " of 8", i < 0 ? 1 : 0, call.on(x, 3) == -3 ? 1 : 0);
    }

    /** All that can be seen of three turns of three, held against rows that are turned one by one. */
    private static void allRows() {
        edges.says(Edges.TERMS, "which SIZE lay on top behind one TURN after another from now on; 0: not seen): "
                + "ROWS by which it is so.");
        for (String law : new String[] {"", "may:many=1 or up=1;", "may:many>1 and top<3 or many=3;"}) {
            List<int[]> tops = new ArrayList<>();
            List<int[]> rows = new ArrayList<>();
            for (int row = 0; row < 27; row++) {
                GriddleTurn by = lying(law, 2, -1, 3);
                int[] ks = {row / 9 + 1, row / 3 % 3 + 1, row % 3 + 1};
                int[] seen = new int[3];
                boolean can = true;
                for (int i = 0; i < 3; i++) {
                    can &= by.turn(ks[i]) >= 0;
                    seen[i] = by.cake(0, 0);
                }
                if (can) {
                    tops.add(seen);
                    rows.add(ks);
                }
            }
            GriddleTurn x = lying(law, 2, -1, 3);
            for (int told = 0; told < 64; told++) {
                int[] sizes = {told / 16, told / 4 % 4, told % 4};
                if (told % 40 == 39) {
                    x = lying(law, 2, -1, 3);
                }
                Check.fillTray(x, 1, 0, sizes[0], sizes[1], sizes[2]);
                seenAs(law, x, sizes, tops, rows);
            }
        }
    }

    private static void seenAs(String law, GriddleTurn x, int[] sizes, List<int[]> tops, List<int[]> rows) {
        String name = law + " " + sizes[0] + " " + sizes[1] + " " + sizes[2];
        int many = 0;
        int[] first = {-1, -1, -1};
        int[] bits = new int[3];
        for (int r = 0; r < rows.size(); r++) {
            boolean so = true;
            for (int i = 0; i < 3; i++) {
                so &= sizes[i] == 0 || sizes[i] == tops.get(r)[i];
            }
            if (so) {
                many++;
                first = many == 1 ? rows.get(r) : first;
                for (int i = 0; i < 3; i++) {
                    bits[i] |= 1 << rows.get(r)[i];
                }
            }
        }
        due(name + " seen", many, x.seen(1));
        for (int i = 0; i < 3; i++) {
            due(name + " seenBy " + i, first[i], x.seenBy(1, i));
            due(name + " turned " + i, bits[i], x.turned(1, i));
        }
    }

    private static void heats() {
        edges.says(31, "BY HABIT: HEATS, as bits. -2: the TRAY; -6; -4: not 1 to 8 numbers; -3: one is no SIZE of these.");
        refusals("heats", (x, tray) -> x.heats(tray), 1);
        // by heat 0 and 9 alone both are turned: the first and the last bit
        GriddleTurn x = lying("habit:if heat=0 or heat=9 then 2 else 1 end;", 1, 2);
        Check.fillTray(x, 0, 0, 2);
        due("0 and 9", 513, x.heats(0));
        Check.fillTray(x, 0, 0, 1);
        due("all others", 510, x.heats(0));
        Check.fillTray(x, 0, 0, 2, 1, 2, 1, 2, 1, 2, 1);
        due("eight turns", 513, x.heats(0));
        Check.fillTray(x, 0, 0, 2, 1, 2, 1, 2, 1, 2, 2);
        due("none", 0, x.heats(0));
        x.heat(7);
        Check.fillTray(x, 0, 0, 2);
        due("whatever the heat is", 513, x.heats(0));
        due("the heat stays", 7, x.count(1));
        due("nothing changed", 0, x.lies(0));
        GriddleTurn one = new GriddleTurn();
        Check.fillTray(one, 0, 0, 1);
        due("all", 1023, one.heats(0));
        edges.says(Edges.TERMS, "BY HABIT in a TRAY (so, but each 1 and more, TURNS by HABIT): HEATS 0 to 9 by which it is so.");
        Check.fillTray(one, 0, 0, 0);
        due("0 is not 1 and more", -3, one.heats(0));
        Check.fillTray(one, 0, 0, 1, 0);
        due("0 is not 1 and more", -3, one.heats(0));
        Check.fillTray(one, 0, 0, -1);
        due("nor is -1", -3, one.heats(0));
        for (int heat = 0; heat <= 9; heat++) {
            GriddleTurn just = lying("habit:if heat=" + heat + " then 2 else 1 end;", 1, 2);
            Check.fillTray(just, 0, 0, 2);
            due("just " + heat, 1L << heat, just.heats(0));
        }
        for (int heat = 10; heat <= 12; heat++) {
            GriddleTurn just = lying("habit:if heat=" + heat + " then 2 else 1 end;", 1, 2);
            Check.fillTray(just, 0, 0, 2);
            due("there is no heat " + heat, 0, just.heats(0));
        }
        // a turn by habit by which none is turned is one, too
        GriddleTurn still = lying(STILL, 2, 1);
        Check.fillTray(still, 0, 0, 2, 2, 2);
        due("none is turned", 1023, still.heats(0));
        Check.fillTray(still, 0, 0, 1);
        due("none is turned", 0, still.heats(0));
        // what may be is by each heat, too
        GriddleTurn may = lying("habit:2;may:heat>3;", 1, 2);
        Check.fillTray(may, 0, 0, 2);
        due("4 to 9", 1023 - 15, may.heats(0));
    }

    private static void attempt(String laws, int want, int... stack) {
        GriddleTurn x = lying(laws, stack);
        Check.fillTray(x, 0, 0, Math.abs(stack[0]));
        due(laws, want, x.attempt(0));
    }

    private static void attempt() {
        edges.says(32, "by which the greatest number of these HEATS by which it is the same (0: the STACK then; 1: the set of k "
                + "that may be, all lying as now) is less, 0 if like.");
        // with one left both are 1
        attempt("habit:if heat=4 then 1 else 2 end;", 0, 1, 2);
        // two left, told apart by what may be, by habit, by both, by none
        attempt("habit:if heat=4 or heat=5 then 1 else 2 end;may:heat<5 or not many=3;", 1, 1, 2, 3);
        attempt("habit:if heat=4 then 1 else if heat=5 then 0 else 2 end end;", 0, 1, 2, 3);
        attempt("habit:if heat=4 then 1 else if heat=5 then 0 else 2 end end;may:heat<5 or many<3;", 0, 1, 2, 3);
        attempt("habit:if heat=4 or heat=5 then 1 else 2 end;", 0, 1, 2, 3);
        // all ten: 9 and 1 against 10, the one heat being the first or the last
        attempt("habit:0;may:heat=0;", 1, 1, 2);
        attempt("habit:0;may:heat=9;", 1, 1, 2);
        attempt("habit:1;may:heat=0;", 0, 1, 2);
        // sets of as many k that are not the same: 5 and 5 against 10
        attempt("habit:0;may:heat<5 and many=1 or heat>4 and many=2;", 1, 1, 2);
        // sets that differ by the least k alone, by the greatest alone
        attempt("habit:0;may:many>1 or heat<5;", 1, 1, 2);
        attempt("habit:0;may:many>1 or heat<5;", 1, 1, 2, 3, 4, 5);
        attempt("habit:0;may:many<5 or heat<5;", 1, 1, 2, 3, 4, 5);
        // these are 0 and 1: by all heats it would be 8 against 6, and 8 against 9
        attempt("habit:if heat<2 then heat else 2 end;may:many<3 or heat>5;", 0, 1, 2, 3);
        attempt("habit:if heat<2 then 1 else 2 end;may:many<3 or heat=0;", 1, 1, 2, 3);
        // these are 2, 4 and 6, no two of them next to each other
        attempt("habit:if heat=2 or heat=4 or heat=6 then 1 else 2 end;may:many<3 or heat=4;", 1, 1, 2, 3);
        attempt("habit:if heat=2 or heat=6 then 1 else if heat=4 then 0 else 2 end end;", 0, 1, 2, 3);
        // three sets, 4 and 3 and 3, against two stacks, 5 and 5, and the other way round
        attempt("habit:if heat<5 then 1 else 0 end;may:many=1 or heat<4 and many=2 or heat<7 and many=3;", 1, 1, 2, 3);
        attempt("habit:if heat<4 then 1 else 0 end;may:many=1 or heat<7 and many=2;", 0, 1, 2, 3);
        edges.says(32, "NONE: there are none; as heats().");
        refusals("attempt", (x, tray) -> x.attempt(tray), 1);
        GriddleTurn x = lying("", 1, 2);
        Check.fillTray(x, 0, 0, 1);
        due("there are none", -1, x.attempt(0));
        Check.fillTray(x, 0, 0, 1, 3);
        due("ahead of NONE", -3, x.attempt(0));
        Check.fillTray(x, 0, 0, 1, 0);
        due("0 is none", -3, x.attempt(0));
    }

    private static void forces() {
        edges.says(33, "FORCING a SIZE: within how many TURNS, at fewest (0: it is so). NONE: never; -2.");
        for (int cakes = 1; cakes <= 5; cakes++) {
            GriddleTurn x = lying("", Texts.stacks(cakes).get(0));
            GriddleTurn still = lying(STILL, Texts.stacks(cakes).get(0));
            due("it is so", 0, x.forces(1));
            due("it is so, none may be", 0, still.forces(1));
            for (int size = 2; size <= cakes; size++) {
                due("by one turn", 1, x.forces(size));
                due("never", -1, still.forces(size));
            }
            for (int size : new int[] {Integer.MIN_VALUE, -1, 0, cakes + 1, 6, Integer.MAX_VALUE}) {
                due("forces(" + size + ") of " + cakes, -2, x.forces(size));
                due("ahead of NONE", -2, still.forces(size));
            }
        }
    }

    private static void best() {
        edges.says(34, "The first k by which it does within as few (0: it lets it be). NONE: it doesn't, it is so; -2.");
        for (int cakes = 1; cakes <= 5; cakes++) {
            GriddleTurn x = lying("", Texts.stacks(cakes).get(0));
            GriddleTurn still = lying(STILL, Texts.stacks(cakes).get(0));
            due("it is so", -1, x.best(1));
            due("it is so, none may be", -1, still.best(1));
            for (int size = 2; size <= cakes; size++) {
                due("by one turn", size, x.best(size));
                due("never", -1, still.best(size));
            }
            for (int size : new int[] {Integer.MIN_VALUE, -1, 0, cakes + 1, 6, Integer.MAX_VALUE}) {
                due("best(" + size + ") of " + cakes, -2, x.best(size));
                due("ahead of NONE", -2, still.best(size));
            }
        }
    }

    private static void forcing() {
        edges.says(Edges.TERMS, "FORCING: two turn by turns (who can turn must, who can't lets it be), the first one first; it "
                + "FORCES a SIZE on top within n TURNS, if it can do so that it is there some time by then (behind a TURN, "
                + "or now), whatever the other one does.");
        String[] laws = {"may:not many=3;", "may:many=up+1;", "may:many<3 and up<3 or up=3 and many=3;",
            "may:many=2 or up=2;", "may:many=1 and top=1 or many=2 and up>0 or many=3 and up=2;"};
        List<int[]> stacks = Texts.stacks(3);
        for (String law : laws) {
            int[][] by = new int[stacks.size()][4];
            for (int s = 0; s < by.length; s++) {
                for (int k = 1; k <= 3; k++) {
                    by[s][k] = lying(law, stacks.get(s)).by(k, 0);
                }
            }
            for (int s = 0; s < by.length; s++) {
                for (int size = 1; size <= 3; size++) {
                    forcing(law, stacks, by, s, size);
                }
            }
        }
        for (String law : new String[] {"may:many<2 or many=top;", "may:many=1 or many=6-top;", "may:many>1 and not many=top;",
            "may:many=up or many<up-1 or 3>under+up;", "may:many<4 and under>top;"}) {
            forcingFive(law);
        }
    }

    /** Of five, some by many turns, some never. */
    private static void forcingFive(String law) {
        List<int[]> stacks = Texts.stacks(5);
        Turns turns = new Turns("plate heat 0;", law, 5);
        for (int size = 1; size <= 5; size++) {
            boolean[] there = new boolean[stacks.size()];
            for (int s = 0; s < there.length; s++) {
                there[s] = Math.abs(stacks.get(s)[0]) == size;
            }
            int[] forced = turns.forced(there);
            int last = 0;
            for (int s = 0; s < there.length; s++) {
                last = forced[s] > forced[last] ? s : last;
            }
            due(law + " the last one of size " + size, forced[last], lying(law, stacks.get(last)).forces(size));
            for (int s = size; s < there.length; s += 61) {
                due(law + Texts.cakes(stacks.get(s)) + size, forced[s], lying(law, stacks.get(s)).forces(size));
            }
        }
    }

    /** By the words alone: whether it is forced within n turns from a stack on, the first one being next or not. */
    private static boolean within(List<int[]> stacks, int[][] by, int s, int size, int n, boolean own) {
        if (Math.abs(stacks.get(s)[0]) == size) {
            return true;
        }
        boolean can = false;
        boolean some = false;
        boolean every = true;
        for (int k = 1; k <= 3 && n > 0; k++) {
            if (by[s][k] >= 0) {
                boolean so = within(stacks, by, by[s][k], size, n - 1, !own);
                can = true;
                some |= so;
                every &= so;
            }
        }
        return can && (own ? some : every);
    }

    private static void forcing(String law, List<int[]> stacks, int[][] by, int s, int size) {
        int fewest = -1;
        for (int n = 0; n <= 7 && fewest < 0; n++) {
            fewest = within(stacks, by, s, size, n, true) ? n : -1;
        }
        int first = -1;
        for (int k = 1; k <= 3 && fewest > 0 && first < 0; k++) {
            first = by[s][k] >= 0 && within(stacks, by, by[s][k], size, fewest - 1, false) ? k : -1;
        }
        GriddleTurn x = lying(law, stacks.get(s));
        String name = law + Texts.cakes(stacks.get(s)) + size;
        due(name + " forces", fewest, x.forces(size));
        due(name + " best", first, x.best(size));
    }

    private static void chance() {
        edges.says(35, "CHANCE that it is as an AIM tells behind n TURNS (0 to 7), what 0: the number above, 1: below, in lowest "
                + "terms.");
        GriddleTurn one = new GriddleTurn();
        // by lot 1 alone it is turned: 9/10 to stay each time, (1 + (8/10)^n) / 2 to lie right
        int[] above = {1, 9, 41, 189, 881, 4149, 19721, 94509};
        int[] below = {1, 10, 50, 250, 1250, 6250, 31250, 156250};
        GriddleTurn still = lying(STILL, 2, -1);
        for (int n = 0; n <= 7; n++) {
            due("above by " + n, above[n], one.chance(0, n, 0));
            due("below by " + n, below[n], one.chance(0, n, 1));
            due("above by " + n, above[n], one.chance(2, n, 0));
            due("below by " + n, below[n], one.chance(2, n, 1));
            for (int aim = 0; aim < 3; aim++) {
                due("never: above", 0, still.chance(aim, n, 0));
                due("never: below", 1, still.chance(aim, n, 1));
            }
            due("always: above", 1, one.chance(1, n, 0));
            due("always: below", 1, one.chance(1, n, 1));
        }
        due("nothing changed", 0, one.lies(0));
        edges.says(35, "-2: the AIM, what; -3: n.");
        for (int bad : new int[] {Integer.MIN_VALUE, -1, 3, 4, Integer.MAX_VALUE}) {
            due("chance(" + bad + ", 0, 0)", -2, one.chance(bad, 0, 0));
            due("the aim ahead of n", -2, one.chance(bad, 8, 0));
        }
        for (int bad : new int[] {Integer.MIN_VALUE, -1, 2, 3, Integer.MAX_VALUE}) {
            due("chance(0, 0, " + bad + ")", -2, one.chance(0, 0, bad));
            due("what ahead of n", -2, one.chance(2, -1, bad));
        }
        for (int n : new int[] {Integer.MIN_VALUE, -1, 8, 9, Integer.MAX_VALUE}) {
            for (int aim = 0; aim < 3; aim++) {
                due("chance(" + aim + ", " + n + ", 0)", -3, one.chance(aim, n, 0));
                due("chance(" + aim + ", " + n + ", 1)", -3, one.chance(aim, n, 1));
            }
        }
        edges.says(Edges.TERMS, "CHANCE: in each TURN one of ten lots is drawn, each as likely: by lot v there is a TURN of v "
                + "(none is turned, if it can't be).");
        // five of ten lots turn, so by one turn half of them lie otherwise
        GriddleTurn five = lying("", 1, 2, 3, 4, 5);
        due("five: above", 1, five.chance(0, 1, 0));
        due("five: below", 2, five.chance(0, 1, 1));
        GriddleTurn law = lying("may:many>3;", 1, 2, 3, 4, 5);
        due("two of them: above", 4, law.chance(0, 1, 0));
        due("two of them: below", 5, law.chance(0, 1, 1));
    }

    private static void mean() {
        edges.says(36, "How many lie RIGHT on the mean behind n TURNS (0 to 7), what 0: above, 1: below, in lowest terms.");
        GriddleTurn one = new GriddleTurn();
        int[] above = {1, 9, 41, 189, 881, 4149, 19721, 94509};
        int[] below = {1, 10, 50, 250, 1250, 6250, 31250, 156250};
        GriddleTurn still = lying(STILL, 2, -1);
        GriddleTurn all = lying(STILL, 1, 2, 3, 4, 5);
        for (int n = 0; n <= 7; n++) {
            due("above by " + n, above[n], one.mean(n, 0));
            due("below by " + n, below[n], one.mean(n, 1));
            due("none: above", 0, still.mean(n, 0));
            due("none: below", 1, still.mean(n, 1));
            due("all: above", 5, all.mean(n, 0));
            due("all: below", 1, all.mean(n, 1));
        }
        // by lots 1 to 5: 4, 3, 2, 1, 0 lie right, else 5
        GriddleTurn five = lying("", 1, 2, 3, 4, 5);
        due("five: above", 7, five.mean(1, 0));
        due("five: below", 2, five.mean(1, 1));
        edges.says(36, "-2: what; -3: n.");
        for (int what : new int[] {Integer.MIN_VALUE, -1, 2, 3, Integer.MAX_VALUE}) {
            due("mean(0, " + what + ")", -2, one.mean(0, what));
            due("what ahead of n", -2, one.mean(8, what));
        }
        for (int n : new int[] {Integer.MIN_VALUE, -1, 8, 9, Integer.MAX_VALUE}) {
            due("mean(" + n + ", 0)", -3, one.mean(n, 0));
            due("mean(" + n + ", 1)", -3, one.mean(n, 1));
        }
    }
}
