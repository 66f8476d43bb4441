import java.io.IOException;

/** The edges of deeds: promises 9 to 15, with what the Terms say of DEEDS, UNDOING and a BREAKFAST. */
public final class EdgesDeedsTest {
    private static final String TWO = "plate heat 5;cake 1;cake 2;may:many<heat;";
    private static Edges edges;

    public static void main(String[] args) throws IOException {
        edges = new Edges("EdgesDeedsTest");
        turns();
        habits();
        heats();
        undo();
        whatIsUndone();
        deeds();
        judge();
        perform();
        breakfast();
        edges.end(9, 15);
    }

    private static void due(String call, long want, long got) {
        edges.due(call, want, got);
    }

    /** How it lies, the heat, the work and how many calls can be undone. */
    private static void state(GriddleTurn x, String when, int stack, int heat, int work, int undoable) {
        due(when + ": lies(0)", stack, x.lies(0));
        due(when + ": count(1)", heat, x.count(1));
        due(when + ": count(2)", work, x.count(2));
        due(when + ": count(3)", undoable, x.count(3));
    }

    private static void turns() {
        edges.says(9, "A TURN of k: its WORK. -11, -12.");
        GriddleTurn one = new GriddleTurn();
        due("turn(1) of one", 1, one.turn(1));
        due("turn(2) of one", -11, one.turn(2));
        state(one, "of one", 1, 0, 1, 1);
        GriddleTurn five = Check.told("plate heat 0;cake 5;cake 4;cake 3;cake 2;cake 1;");
        int[] work = {-11, 5, 9, 12, 14, 15, -11};
        for (int k = 0; k < work.length; k++) {
            GriddleTurn x = Check.told("plate heat 0;cake 5;cake 4;cake 3;cake 2;cake 1;");
            due("turn(" + k + ")", work[k], x.turn(k));
        }
        for (int k : new int[] {Integer.MIN_VALUE, -1, 0, 6, 7, 33, Integer.MAX_VALUE}) {
            due("turn(" + k + ")", -11, five.turn(k));
        }
        state(five, "none was turned", 119 * 32, 0, 0, 0);
        GriddleTurn law = Check.told(TWO);
        due("may", 3, law.turn(2));
        law.heat(2);
        due("may not", -12, law.turn(2));
        due("no such k ahead of the law", -11, law.turn(3));
        due("no such k ahead of the law", -11, law.turn(0));
        due("the last that may", 2, law.turn(1));
        state(law, "at the end", 5, 2, 5, 3);
    }

    private static void habits() {
        edges.says(10, "n TURNS by HABIT (1 to 99): how many lie RIGHT then. -3.");
        for (int n : new int[] {1, 2, 98, 99}) {
            GriddleTurn x = new GriddleTurn();
            due("habits(" + n + ")", n % 2 == 0 ? 1 : 0, x.habits(n));
            state(x, "by " + n, n % 2, 0, n, 1);
        }
        GriddleTurn x = new GriddleTurn();
        for (int n : new int[] {Integer.MIN_VALUE, -99, -1, 0, 100, 101, Integer.MAX_VALUE}) {
            due("habits(" + n + ")", -3, x.habits(n));
        }
        state(x, "none was turned", 0, 0, 0, 0);
        // 2, 1 up; 1, 2 up; it stays
        GriddleTurn stays = Check.told("plate heat 0;cake 2;cake 1 up;may:top=2;habit:2;");
        due("habits(50)", 0, stays.habits(50));
        state(stays, "turned but once", 1, 0, 3, 1);
    }

    private static void heats() {
        edges.says(11, "Another HEAT (0 to 9): what it was. -11.");
        GriddleTurn x = Check.told("plate heat 4;");
        int was = 4;
        for (int n = 0; n <= 9; n++) {
            due("heat(" + n + ")", was, x.heat(n));
            due("count(1)", n, x.count(1));
            was = n;
        }
        for (int n : new int[] {Integer.MIN_VALUE, -2, -1, 10, 11, 19, Integer.MAX_VALUE}) {
            due("heat(" + n + ")", -11, x.heat(n));
        }
        state(x, "at the end", 0, 9, 0, 10);
        due("the same one", 9, x.heat(9));
        due("can be undone, too", 10, x.count(3));
        GriddleTurn same = new GriddleTurn();
        due("the same one", 0, same.heat(0));
        due("can be undone, too", 1, same.count(3));
    }

    private static void undo() {
        edges.says(12, "n calls (1 to 10) are UNDONE: how many still can be. -3: n, more than can be.");
        for (int made = 0; made <= 12; made++) {
            int can = Math.min(made, 10);
            for (int n = -1; n <= 12; n++) {
                GriddleTurn x = Check.told("plate heat 0;");
                for (int i = 1; i <= made; i++) {
                    x.turn(1);
                }
                boolean taken = n >= 1 && n <= can;
                due("undo(" + n + ") of " + made, taken ? can - n : -3, x.undo(n));
                int work = taken ? made - n : made;
                state(x, "undo(" + n + ") of " + made, work % 2, 0, work, taken ? can - n : can);
            }
        }
        GriddleTurn x = new GriddleTurn();
        x.heat(7);
        for (int n : new int[] {Integer.MIN_VALUE, -10, 2, 10, 11, Integer.MAX_VALUE}) {
            due("undo(" + n + ")", -3, x.undo(n));
        }
        due("still there", 0, x.undo(1));
        due("undoing isn't undone", -3, x.undo(1));
        state(x, "at the end", 0, 0, 0, 0);
    }

    private static void whatIsUndone() {
        edges.says(Edges.TERMS, "Calls that did some can be UNDONE each as a whole, the latest first, 10 at most "
                + "(eldest are forgotten): PANCAKES, HEAT, how much WORK there was.");
        GriddleTurn x = Check.told("plate heat 0;cake 1;cake 2;habit:2;");
        x.turn(1);
        state(x, "turn", 2, 0, 1, 1);
        x.habits(1);
        state(x, "habits", 6, 0, 4, 2);
        x.heat(3);
        state(x, "heat", 6, 3, 4, 3);
        Check.fillTray(x, 0, 0, 1, 14, 2, 9, 1);
        due("perform", 3, x.perform(0));
        // 2, 1; 1 up, 2 up
        state(x, "perform", 3, 4, 9, 4);
        int done = x.breakfast(12345, 40);
        due("some of the breakfast", 1, done > 1 ? 1 : 0);
        due("breakfast", 5, x.count(3));
        due("undo", 4, x.undo(1));
        state(x, "before breakfast", 3, 4, 9, 4);
        due("undo", 3, x.undo(1));
        state(x, "before perform", 6, 3, 4, 3);
        due("undo", 2, x.undo(1));
        state(x, "before heat", 6, 0, 4, 2);
        due("undo", 1, x.undo(1));
        state(x, "before habits", 2, 0, 1, 1);
        x.heat(8);
        state(x, "another one behind", 2, 8, 1, 2);
        due("undo both", 0, x.undo(2));
        state(x, "as at first", 0, 0, 0, 0);
        // the eleventh makes the first be forgotten, the twelfth the second
        for (int i = 1; i <= 25; i++) {
            x.heat(i % 10);
            due("calls", Math.min(i, 10), x.count(3));
        }
        due("undo(10)", 0, x.undo(10));
        due("behind the 15th", 5, x.count(1));
        // what answers only, and what is refused, is none to undo
        x.judge(0, 2);
        x.cheapest(0, 0);
        x.at(5);
        x.turn(3);
        x.habits(0);
        x.heat(10);
        x.breakfast(1, 0);
        x.perform(3);
        x.numbers(1, 0, 3);
        x.write(1, 0, 1);
        x.lists(1, 0);
        x.image(0);
        due("none of these", 0, x.count(3));
        Check.fillTray(x, 2, 0);
        x.perform(2);
        due("none of an empty tray", 0, x.count(3));
        Check.fillTray(x, 2, 0, 3);
        x.perform(2);
        due("none could be", 0, x.count(3));
        Check.fillTray(x, 2, 0, 1, 3);
        x.perform(2);
        due("one could be", 1, x.count(3));
    }

    private static void deed(int heat, long v, int why, int stack, int work) {
        GriddleTurn x = Check.told(TWO);
        x.heat(heat);
        Check.fillTray(x, 0, 3, v);
        due("deed " + v + " first", why == 0 ? -1 : 0, x.judge(0, 0));
        due("deed " + v + " why", why, x.judge(0, 1));
        due("deed " + v + " number", stack, x.judge(0, 2));
        due("deed " + v + " work", work, x.judge(0, 3));
        due("deed " + v + " done", why == 0 ? 1 : 0, x.perform(0));
        int now = why == 0 && v >= 10 ? (int) v - 10 : heat;
        state(x, "deed " + v, stack, now, work, why == 0 ? 2 : 1);
    }

    private static void deeds() {
        edges.says(Edges.TERMS, "DEEDS: 0: a TURN by HABIT; 1 to 9: a TURN of v; 10 to 19: HEAT v - 10; others: 1.");
        // all lie right, so that habit turns both
        deed(5, 0, 0, 7, 3);
        deed(2, 0, 0, 0, 0);
        deed(5, 1, 0, 2, 1);
        deed(5, 2, 0, 7, 3);
        deed(2, 2, 2, 0, 0);
        deed(1, 1, 2, 0, 0);
        for (int v = 3; v <= 9; v++) {
            deed(5, v, 1, 0, 0);
        }
        for (int v = 10; v <= 19; v++) {
            deed(5, v, 0, 0, 0);
        }
        long[] others = {20, 21, 100, -1, -2, -10, 1L << 32, (1L << 32) + 1, (1L << 33) + 12, -(1L << 32) + 1,
            Integer.MIN_VALUE, Integer.MAX_VALUE, Long.MIN_VALUE, Long.MIN_VALUE + 1, Long.MAX_VALUE};
        for (long v : others) {
            deed(5, v, 1, 0, 0);
        }
        edges.says(Edges.TERMS, "Why not: 1 no such k, HEAT. 2 the law may.");
        deed(0, 3, 1, 0, 0);
        deed(0, 20, 1, 0, 0);
        deed(0, 1, 2, 0, 0);
        GriddleTurn five = Check.told("plate heat 0;cake 1;cake 2;cake 3;cake 4;cake 5;");
        Check.fillTray(five, 0, 0, 5);
        due("5 of five", 0, five.judge(0, 1));
        Check.fillTray(five, 0, 0, 6);
        due("6 of five", 1, five.judge(0, 1));
        GriddleTurn one = new GriddleTurn();
        Check.fillTray(one, 0, 0, 2);
        due("2 of one", 1, one.judge(0, 1));
    }

    private static void judged(GriddleTurn x, String name, int first, int why, int stack, int work) {
        int[] want = {first, why, stack, work};
        for (int what = 0; what < 4; what++) {
            due(name + " judge(0, " + what + ")", want[what], x.judge(0, what));
        }
    }

    private static void judge() {
        edges.says(13, "DEEDS, judged as if done, what 0: the first place that can't be (NONE), 1: why (0), "
                + "2: the STACK's number then, 3: how much WORK more there is then.");
        GriddleTurn x = Check.told(TWO);
        x.turn(2);
        x.turn(2);
        x.numbers(0, 0, 0);
        judged(x, "empty", -1, 0, 0, 0);
        long[] forty = new long[40];
        java.util.Arrays.fill(forty, 1);
        Check.fillTray(x, 0, 0, forty);
        judged(x, "forty", -1, 0, 0, 40);
        x.write(0, 39, 9);
        judged(x, "all but the last", 39, 1, 2, 39);
        x.write(0, 0, 9);
        judged(x, "not the first", 0, 1, 0, 0);
        // the heat that was told in it counts, and what comes behind the first that can't be doesn't
        Check.fillTray(x, 0, 0, 12, 2, 19, 1);
        judged(x, "by the law then", 1, 2, 0, 0);
        Check.fillTray(x, 0, 0, 12, 0, 13, 0, 1);
        judged(x, "by habit none, then both", -1, 0, 5, 5);
        state(x, "nothing was done", 0, 5, 6, 2);
        edges.says(13, "-2: the TRAY, what; -6.");
        for (int bad : new int[] {Integer.MIN_VALUE, -1, 4, 5, Integer.MAX_VALUE}) {
            due("judge(" + bad + ", 0)", -2, x.judge(bad, 0));
            due("judge(0, " + bad + ")", -2, x.judge(0, bad));
            due("what ahead of a missing one", -2, x.judge(3, bad));
            due("both", -2, x.judge(bad, bad));
        }
        for (int what = 0; what < 4; what++) {
            due("judge(1, " + what + ")", -6, x.judge(1, what));
            due("judge(3, " + what + ")", -6, x.judge(3, what));
        }
        Check.fillTray(x, 3, 0, 1);
        due("the last tray", 2, x.judge(3, 2));
    }

    private static void perform() {
        edges.says(14, "They are done, till one can't be: how many. -2; -6.");
        GriddleTurn x = Check.told(TWO);
        for (int bad : new int[] {Integer.MIN_VALUE, -1, 4, 5, Integer.MAX_VALUE}) {
            due("perform(" + bad + ")", -2, x.perform(bad));
        }
        for (int tray = 0; tray < 4; tray++) {
            due("perform(" + tray + ")", -6, x.perform(tray));
        }
        x.numbers(0, 0, 0);
        due("none", 0, x.perform(0));
        state(x, "none", 0, 5, 0, 0);
        long[] forty = new long[40];
        java.util.Arrays.fill(forty, 1);
        Check.fillTray(x, 3, 0, forty);
        due("forty", 40, x.perform(3));
        state(x, "forty", 0, 5, 40, 1);
        x.write(3, 39, 20);
        due("all but the last", 39, x.perform(3));
        state(x, "all but the last", 2, 5, 79, 2);
        x.write(3, 0, -1);
        due("not the first", 0, x.perform(3));
        state(x, "not the first", 2, 5, 79, 2);
        Check.fillTray(x, 1, 1, 12, 2, 19, 1);
        due("till the law", 1, x.perform(1));
        state(x, "till the law", 2, 2, 79, 3);
        due("once more", 1, x.perform(1));
        state(x, "the same heat again", 2, 2, 79, 4);
        due("undone as wholes", 1, x.undo(3));
        state(x, "undone", 0, 5, 40, 1);
        Check.fillTray(x, 2, 2, 0);
        GriddleTurn idle = Check.told("plate heat 0;habit:0;");
        Check.fillTray(idle, 2, 2, 0, 0);
        due("by habit none is turned", 2, idle.perform(2));
        state(idle, "yet it was done", 0, 0, 0, 1);
    }

    private static int drawn;

    private static int draw() {
        drawn = 1103515245 * drawn + 12345;
        return drawn >>> 16;
    }

    /** The same deeds one by one by other calls: how many could be. */
    private static int apart(GriddleTurn x, int seed, int times) {
        int done = 0;
        drawn = seed;
        for (int i = 0; i < times; i++) {
            int lot = draw() % 4;
            int v = lot == 0 ? 0 : lot == 3 ? draw() % 10 : draw() % 6;
            int answer = lot == 3 ? x.heat(v) : v == 0 ? x.habits(1) : x.turn(v);
            done += answer < 0 ? 0 : 1;
        }
        return done;
    }

    private static void breakfast() {
        edges.says(15, "A BREAKFAST: how many could be. -3: how many times.");
        GriddleTurn x = new GriddleTurn();
        for (int times : new int[] {Integer.MIN_VALUE, -40, -1, 0, 41, 42, Integer.MAX_VALUE}) {
            due("breakfast(1, " + times + ")", -3, x.breakfast(1, times));
            due("breakfast(-1, " + times + ")", -3, x.breakfast(-1, times));
        }
        state(x, "none was done", 0, 0, 0, 0);
        edges.says(Edges.TERMS, "A BREAKFAST by a SEED (x, an int; a DRAW: x becomes 1103515245 x + 12345, it is x >>> 16)");
        // x is 12345, the draw 0: the deed 0
        GriddleTurn zero = Check.told("plate heat 5;cake 1;cake 2;cake 3;habit:2;");
        due("by seed 0", 1, zero.breakfast(0, 1));
        state(zero, "by seed 0", zero.lies(0), 5, 3, 1);
        // x is 1103527590, the draw 16838; then above an int, 2524885223, the draw 38526 (not below 0): the deed 0
        GriddleTurn unit = Check.told("plate heat 5;cake 1;cake 2;cake 3;habit:2;");
        due("by seed 1", 1, unit.breakfast(1, 1));
        state(unit, "by seed 1", zero.lies(0), 5, 3, 1);
        // x is 3191464396, below 0 as an int, the draw 48697; then 288979989, the draw 4409: the deed 5
        GriddleTurn below = Check.told("plate heat 5;cake 1;cake 2;cake 3;cake 4;cake 5;");
        due("by seed -1", 1, below.breakfast(-1, 1));
        due("by seed -1", 15, below.count(2));
        edges.says(Edges.TERMS, "so many times (1 to 40): DRAW modulo 4: 0 the DEED 0; 1, 2 the DEED DRAW modulo 6; "
                + "3 HEAT DRAW modulo 10; as in a TRAY, if it can be.");
        int[] seeds = {0, 1, -1, 2, 3, 4, 5, 6, 7, 8, 9, 65535, 65536, -65536, 1 << 30, Integer.MIN_VALUE,
            Integer.MIN_VALUE + 1, Integer.MAX_VALUE, Integer.MAX_VALUE - 1};
        String[] texts = {"plate heat 0;", TWO, "plate heat 2;cake 3;cake 1 up;cake 2;habit:top+heat;",
            "plate heat 2;cake 3;cake 1 up;cake 2;cake 5;cake 4 up;may:many<heat;habit:heat-right;"};
        for (int seed : seeds) {
            for (String text : texts) {
                for (int times : new int[] {1, 2, 39, 40}) {
                    GriddleTurn whole = Check.told(text);
                    GriddleTurn one = Check.told(text);
                    int done = apart(one, seed, times);
                    String name = "breakfast(" + seed + ", " + times + ")";
                    due(name, done, whole.breakfast(seed, times));
                    state(whole, name, one.lies(0), one.count(1), one.count(2), done > 0 ? 1 : 0);
                    if (done > 0) {
                        due("undone as a whole", 0, whole.undo(1));
                        GriddleTurn first = Check.told(text);
                        state(whole, name, first.lies(0), first.count(1), 0, 0);
                    }
                }
            }
        }
        // by these seeds the first lot is 0, 1, 2, 3 in some order, so each sort of deed comes alone
        boolean[] met = new boolean[4];
        for (int seed = 0; seed < 40; seed++) {
            drawn = seed << 16;
            int lot = draw() % 4;
            int v = lot == 0 ? 0 : draw();
            met[lot] = true;
            GriddleTurn y = Check.told("plate heat 5;cake 1;cake 2;cake 3;cake 4;cake 5;habit:3;");
            due("one time", 1, y.breakfast(seed << 16, 1));
            int k = lot == 0 || v % 6 == 0 ? 3 : v % 6;
            due("heat of lot " + lot, lot == 3 ? v % 10 : 5, y.count(1));
            due("work of lot " + lot, lot == 3 ? 0 : k * (k + 1) / 2, y.count(2));
        }
        for (int lot = 0; lot < 4; lot++) {
            due("lot " + lot + " was drawn", 1, met[lot] ? 1 : 0);
        }
    }
}
