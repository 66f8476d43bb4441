/** Promises 9 to 15: turns by hand, by habit, the heat, undone, told deeds, breakfasts. */
public final class DeedsTest {
    private static final Check CHECK = new Check("DeedsTest");

    public static void main(String[] args) {
        turns();
        habits();
        heats();
        undone();
        judged();
        performed();
        breakfasts();
        CHECK.end();
    }

    private static void due(String call, long want, long got) {
        CHECK.due(call, want, got);
    }

    private static void turns() {
        GriddleTurn x = Check.told("plate heat 4;cake 1;cake 3 up;cake 2;may:many<heat;");
        due("turn(3)", 6, x.turn(3));
        // 2 up, 3, 1 up: the fourth order, sides 101
        due("number", 3 * 8 + 5, x.lies(0));
        due("work", 6, x.count(2));
        due("turn(1)", 2, x.turn(1));
        due("number", 3 * 8 + 1, x.lies(0));
        due("work", 8, x.count(2));
        due("turn(2)", 5, x.turn(2));
        // 3 up, 2 up, 1 up
        due("number", 5 * 8 + 7, x.lies(0));
        due("turn(0)", -11, x.turn(0));
        due("turn(4)", -11, x.turn(4));
        due("turn(-1)", -11, x.turn(-1));
        x.heat(2);
        due("turn(2)", -12, x.turn(2));
        due("turn(4) ahead of the law", -11, x.turn(4));
        due("nothing turned", 5 * 8 + 7, x.lies(0));
        due("no more work", 13, x.count(2));
        due("refused ones can't be undone", 4, x.count(3));
    }

    private static void habits() {
        GriddleTurn x = Check.told("plate heat 1;cake 2 up;cake 1;habit:if top=2 then 2 else 1 end;");
        due("habits(1)", 1, x.habits(1));
        due("1 up, 2", 2, x.lies(0));
        due("work", 3, x.count(2));
        due("habits(3)", 2, x.habits(3));
        due("work", 6, x.count(2));
        due("habits(99)", 1, x.habits(99));
        due("work", 105, x.count(2));
        due("habits(0)", -3, x.habits(0));
        due("habits(100)", -3, x.habits(100));
        due("habits(-1)", -3, x.habits(-1));
        due("three calls", 3, x.count(3));
        due("undone as a whole", 1, x.undo(2));
        due("as behind the first", 2, x.lies(0));
        due("work", 3, x.count(2));
        GriddleTurn idle = Check.told("plate heat 1;cake 1;cake 2 up;habit:0;");
        due("none is turned", 0, idle.habits(5));
        due("as it lay", 1, idle.lies(0));
        due("no work", 0, idle.count(2));
        due("turns by habit all the same", 1, idle.count(3));
    }

    private static void heats() {
        GriddleTurn x = Check.told("plate heat 4;");
        due("heat(9)", 4, x.heat(9));
        due("heat(0)", 9, x.heat(0));
        due("heat(0) again", 0, x.heat(0));
        due("heat(10)", -11, x.heat(10));
        due("heat(-1)", -11, x.heat(-1));
        due("it is 0", 0, x.count(1));
        due("three calls", 3, x.count(3));
        due("undo(2)", 1, x.undo(2));
        due("it is 9", 9, x.count(1));
    }

    private static void undone() {
        GriddleTurn x = Check.told("plate heat 4;cake 1;cake 2;");
        due("undo(1) of none", -3, x.undo(1));
        for (int i = 0; i < 12; i++) {
            x.heat(i % 10);
            due("calls", Math.min(10, i + 1), x.count(3));
        }
        due("undo(0)", -3, x.undo(0));
        due("undo(11)", -3, x.undo(11));
        due("undo(-1)", -3, x.undo(-1));
        due("undo(1)", 9, x.undo(1));
        due("heat", 0, x.count(1));
        due("undo(9)", 0, x.undo(9));
        due("eldest are forgotten", 1, x.count(1));
        due("undo(1)", -3, x.undo(1));
        x.turn(2);
        x.heat(7);
        x.turn(1);
        due("work", 5, x.count(2));
        due("undo(4)", -3, x.undo(4));
        due("undo(2)", 1, x.undo(2));
        due("work", 3, x.count(2));
        due("heat", 1, x.count(1));
        due("number", 7, x.lies(0));
        due("undo(1)", 0, x.undo(1));
        due("work", 0, x.count(2));
        due("number", 0, x.lies(0));
    }

    private static void judged() {
        GriddleTurn x = Check.told("plate heat 5;cake 1;cake 2;may:many<heat;");
        due("judge(0, 0)", -6, x.judge(0, 0));
        due("judge(0, 4)", -2, x.judge(0, 4));
        due("judge(0, -1)", -2, x.judge(0, -1));
        due("judge(4, 0)", -2, x.judge(4, 0));
        due("judge(-1, 0)", -2, x.judge(-1, 0));
        judge(x, "empty", -1, 0, 0, 0);
        // turn of 2: 2 up, 1 up; by habit of 1: 2, 1 up; a turn of 2: 1, 2 up; heat 9
        judge(x, "all can be", -1, 0, 1, 8, 2, 0, 2, 19);
        judge(x, "no such k", 2, 1, 2, 1, 1, 10 + 3, 3);
        judge(x, "by the law", 1, 2, 0, 0, 12, 2, 1);
        judge(x, "heat of no sort", 0, 1, 0, 0, 20, 1);
        judge(x, "below 0", 1, 1, 7, 3, 2, -1, 1);
        judge(x, "of 64 bits", 0, 1, 0, 0, (1L << 32) + 1);
        due("nothing was done", 0, x.lies(0));
        due("no work", 0, x.count(2));
        due("heat", 5, x.count(1));
        due("nothing to undo", 0, x.count(3));
        Check.fillTray(x, 1, 0, 1);
        x.turn(2);
        due("work more", 2, x.judge(1, 3));
    }

    private static void judge(GriddleTurn x, String name, int first, int why, int stack, int work, long... deeds) {
        Check.fillTray(x, 1, 3, deeds);
        due(name + " first", first, x.judge(1, 0));
        due(name + " why", why, x.judge(1, 1));
        due(name + " stack", stack, x.judge(1, 2));
        due(name + " work", work, x.judge(1, 3));
    }

    private static void performed() {
        GriddleTurn x = Check.told("plate heat 5;cake 1;cake 2;may:many<heat;");
        due("perform(0)", -6, x.perform(0));
        due("perform(4)", -2, x.perform(4));
        due("perform(-1)", -2, x.perform(-1));
        Check.fillTray(x, 0, 0);
        due("of none", 0, x.perform(0));
        Check.fillTray(x, 0, 0, 3, 1);
        due("the first can't be", 0, x.perform(0));
        due("none done, none to undo", 0, x.count(3));
        Check.fillTray(x, 0, 0, 2, 0, 12, 2, 1);
        due("three of them", 3, x.perform(0));
        due("number", 5, x.lies(0));
        due("heat", 2, x.count(1));
        due("work", 5, x.count(2));
        due("one call", 1, x.count(3));
        due("undone as a whole", 0, x.undo(1));
        due("number", 0, x.lies(0));
        due("heat", 5, x.count(1));
    }

    /** A breakfast against the same deeds done one by one. */
    private static void breakfasts() {
        GriddleTurn x = new GriddleTurn();
        due("no times", -3, x.breakfast(1, 0));
        due("too many", -3, x.breakfast(1, 41));
        due("below 0", -3, x.breakfast(1, -1));
        String text = "plate heat 3;cake 3;cake 1 up;cake 2;may:many<heat or top=2;habit:top+heat;";
        for (int seed = -5; seed <= 5; seed++) {
            for (int times = 1; times <= 40; times += 13) {
                GriddleTurn whole = Check.told(text);
                GriddleTurn apart = Check.told(text);
                int done = apart(apart, seed * 99991, times);
                due("breakfast " + seed + " " + times, done, whole.breakfast(seed * 99991, times));
                due("number", apart.lies(0), whole.lies(0));
                due("heat", apart.count(1), whole.count(1));
                due("work", apart.count(2), whole.count(2));
                due("as one call", done > 0 ? 1 : 0, whole.count(3));
            }
        }
        // one lot, a turn that can't be: nothing was done that could be undone
        int seed = 0;
        while (!drawsTurnOf(seed, 5)) {
            seed++;
        }
        GriddleTurn single = new GriddleTurn();
        due("none could be", 0, single.breakfast(seed, 1));
        due("nothing to undo", 0, single.count(3));
    }

    private static int next(int x) {
        return x * 1103515245 + 12345;
    }

    private static boolean drawsTurnOf(int seed, int k) {
        int x = next(seed);
        int lot = (x >>> 16) % 4;
        return (lot == 1 || lot == 2) && (next(x) >>> 16) % 6 == k;
    }

    private static int apart(GriddleTurn x, int seed, int times) {
        int done = 0;
        int drawn = seed;
        for (int i = 0; i < times; i++) {
            drawn = next(drawn);
            int lot = (drawn >>> 16) % 4;
            int v = 0;
            if (lot != 0) {
                drawn = next(drawn);
                v = lot == 3 ? (drawn >>> 16) % 10 : (drawn >>> 16) % 6;
            }
            int answer = lot == 3 ? x.heat(v) : v == 0 ? x.habits(1) : x.turn(v);
            done += answer >= 0 ? 1 : 0;
        }
        return done;
    }
}
