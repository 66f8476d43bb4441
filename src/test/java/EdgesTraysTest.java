import java.io.IOException;
import java.util.List;

/** The edges of trays, images and counts: promises 37 to 42. */
public final class EdgesTraysTest {
    private static final int[] BAD_TRAYS = {Integer.MIN_VALUE, -2, -1, 4, 5, Integer.MAX_VALUE};
    private static Edges edges;

    public static void main(String[] args) throws IOException {
        edges = new Edges("EdgesTraysTest");
        numbers();
        write();
        lists();
        image();
        restore();
        counts();
        edges.end(37, 42);
    }

    private static void due(String call, long want, long got) {
        edges.due(call, want, got);
    }

    private static void numbers() {
        edges.says(37, "A TRAY has n numbers of a sort, all 0 (in place of another one): 0.");
        for (int tray = 0; tray < 4; tray++) {
            for (int sort = 0; sort < 4; sort++) {
                GriddleTurn x = new GriddleTurn();
                for (int n : new int[] {40, 1, 0, 39}) {
                    due("numbers(" + tray + ", " + sort + ", " + n + ")", 0, x.numbers(tray, sort, n));
                    due("behind the last", -7, x.write(tray, n, 1));
                    // all 0: as many turns by habit
                    due("as many", n, x.perform(tray));
                    due("so many turns", n, x.judge(tray, 3));
                    if (n > 0) {
                        due("the last", 9, x.write(tray, n - 1, 9));
                        due("the last can't be", n - 1, x.judge(tray, 0));
                    }
                }
                for (int other = 0; other < 4; other++) {
                    due("others are missing still", other == tray ? 0 : -6, x.judge(other, 1) == -6 ? -6 : 0);
                }
            }
        }
        // another sort: what is written then is cut to it, what was there is gone
        GriddleTurn x = new GriddleTurn();
        x.numbers(0, 3, 2);
        x.write(0, 0, 11);
        x.write(0, 1, 12);
        x.numbers(0, 0, 2);
        due("both are 0", 2, x.judge(0, 3));
        due("of 8 bits now", 0, x.write(0, 0, 256));
        x.numbers(0, 3, 2);
        due("of 64 bits now", 256, x.write(0, 0, 256));
        x.numbers(0, 0, 1);
        x.numbers(0, 0, 2);
        due("all 0 again, those behind a shorter one, too", 2, x.judge(0, 3));
        edges.says(37, "-2: no such TRAY, sort; -3, and the TRAY stays: n is below 0 or above 40.");
        GriddleTurn y = new GriddleTurn();
        Check.fillTray(y, 0, 1, 14, 1, 1);
        for (int tray : BAD_TRAYS) {
            due("numbers(" + tray + ", 0, 1)", -2, y.numbers(tray, 0, 1));
            due("the tray ahead of n", -2, y.numbers(tray, 0, 41));
            due("the tray ahead of n", -2, y.numbers(tray, 3, -1));
        }
        for (int sort : new int[] {Integer.MIN_VALUE, -1, 4, 5, Integer.MAX_VALUE}) {
            due("numbers(0, " + sort + ", 1)", -2, y.numbers(0, sort, 1));
            due("the sort ahead of n", -2, y.numbers(0, sort, 41));
            due("the sort ahead of n", -2, y.numbers(0, sort, -1));
        }
        for (int n : new int[] {Integer.MIN_VALUE, -1, 41, 42, Integer.MAX_VALUE}) {
            for (int sort = 0; sort < 4; sort++) {
                due("numbers(0, " + sort + ", " + n + ")", -3, y.numbers(0, sort, n));
                due("numbers(1, " + sort + ", " + n + ")", -3, y.numbers(1, sort, n));
            }
        }
        due("missing still", -6, y.judge(1, 0));
        due("stays: of 16 bits", 300, y.write(0, 2, 300));
        due("stays: of three", -7, y.write(0, 3, 1));
        y.write(0, 2, 1);
        due("stays: heat 4, twice 1", 2, y.judge(0, 3));
        due("stays", 3, y.perform(0));
        due("heat", 4, y.count(1));
    }

    private static void cut(int sort, long v, long want) {
        GriddleTurn x = new GriddleTurn();
        x.numbers(2, sort, 40);
        due("sort " + sort + ": " + v, want, x.write(2, 0, v));
        due("sort " + sort + ": " + v + " at the last", want, x.write(2, 39, v));
    }

    private static void write() {
        edges.says(Edges.TERMS, ", or have 0 to 40 numbers of 8 bits (sort 0), 16 (1), 32 (2), 64 (3).");
        long[] all = {-1, 127, 128, 255, 256, 32767, 32768, 65535, 65536, (1L << 31) - 1, 1L << 31, (1L << 32) - 1, 1L << 32};
        long[][] there = {{-1, 127, -128, -1, 0, -1, 0, -1, 0, -1, 0, -1, 0},
            {-1, 127, 128, 255, 256, 32767, -32768, -1, 0, -1, 0, -1, 0},
            {-1, 127, 128, 255, 256, 32767, 32768, 65535, 65536, (1L << 31) - 1, -(1L << 31), -1, 0}, all};
        for (int sort = 0; sort < 4; sort++) {
            for (int i = 0; i < all.length; i++) {
                cut(sort, all[i], there[sort][i]);
            }
        }
        edges.says(38, "Number i of a TRAY is v, cut to its sort: as it is there.");
        long[] bounds = {1L << 7, 1L << 15, 1L << 31};
        for (int sort = 0; sort < 3; sort++) {
            long b = bounds[sort];
            cut(sort, b - 1, b - 1);
            cut(sort, b, -b);
            cut(sort, b + 1, -b + 1);
            cut(sort, 2 * b - 1, -1);
            cut(sort, 2 * b, 0);
            cut(sort, 2 * b + 5, 5);
            cut(sort, -b, -b);
            cut(sort, -b - 1, b - 1);
            cut(sort, -2 * b, 0);
            cut(sort, Long.MAX_VALUE, -1);
            cut(sort, Long.MIN_VALUE, 0);
        }
        for (long v : new long[] {Long.MIN_VALUE, Long.MIN_VALUE + 1, -1, 0, 1, 1L << 31, 1L << 32, Long.MAX_VALUE}) {
            cut(3, v, v);
        }
        // as it is there counts: 256 + 1 is a turn of 1 in a tray of 8 bits, none in one of 16
        GriddleTurn x = new GriddleTurn();
        Check.fillTray(x, 0, 0, 257);
        due("257 of 8 bits", -1, x.judge(0, 0));
        Check.fillTray(x, 0, 1, 257);
        due("257 of 16 bits", 0, x.judge(0, 0));
        Check.fillTray(x, 0, 2, (1L << 32) + 1);
        due("of 32 bits", -1, x.judge(0, 0));
        Check.fillTray(x, 0, 3, (1L << 32) + 1);
        due("of 64 bits", 0, x.judge(0, 0));
        edges.says(38, "-2: no such TRAY; -6; -7.");
        for (int tray : BAD_TRAYS) {
            due("write(" + tray + ", 0, 1)", -2, x.write(tray, 0, 1));
            due("the tray ahead of the place", -2, x.write(tray, -1, 1));
        }
        for (int i : new int[] {Integer.MIN_VALUE, -1, 0, 39, 40, Integer.MAX_VALUE}) {
            due("missing, at " + i, -6, x.write(3, i, 1));
        }
        for (int n : new int[] {0, 1, 39, 40}) {
            x.numbers(3, 0, n);
            for (int i : new int[] {Integer.MIN_VALUE, -1, n, n + 1, 40, 41, Integer.MAX_VALUE}) {
                due("write at " + i + " of " + n, -7, x.write(3, i, 1));
            }
            due("nothing was written", n, x.judge(3, 3));
            if (n > 0) {
                due("the first", 7, x.write(3, 0, 7));
                due("the last", 8, x.write(3, n - 1, 8));
            }
        }
    }

    private static void lists() {
        edges.says(39, "SIZES of the STACK of a number from the top on come into a TRAY (below 0: burnt side up), as far as it "
                + "has places: how many.");
        for (int cakes = 1; cakes <= 5; cakes++) {
            int last = Texts.stacks(cakes).size() - 1;
            for (int places = 0; places <= 7; places++) {
                GriddleTurn x = Check.told("plate heat 0;" + Texts.cakes(Texts.stacks(cakes).get(0)));
                x.numbers(1, 0, places);
                due("the first of " + cakes + " into " + places, Math.min(cakes, places), x.lists(1, 0));
                due("the last of " + cakes + " into " + places, Math.min(cakes, places), x.lists(1, last));
            }
            GriddleTurn x = Check.told("plate heat 0;" + Texts.cakes(Texts.stacks(cakes).get(0)));
            x.numbers(1, 3, 40);
            due("into 40", cakes, x.lists(1, last));
        }
        // which numbers came: as deeds, those below 0 can't be, the others are turns
        List<int[]> stacks = Texts.stacks(3);
        for (int sort = 0; sort < 4; sort++) {
            for (int number = 0; number < stacks.size(); number++) {
                listed(sort, number, stacks.get(number));
            }
        }
        edges.says(39, "-2: the TRAY; -6; -3: the number.");
        for (int cakes = 1; cakes <= 5; cakes++) {
            int all = Texts.stacks(cakes).size();
            GriddleTurn x = Check.told("plate heat 0;" + Texts.cakes(Texts.stacks(cakes).get(0)));
            Check.fillTray(x, 0, 0, 13, 1, 1);
            int[] numbers = {Integer.MIN_VALUE, -1, all, all + 1, Integer.MAX_VALUE};
            for (int number : numbers) {
                due("lists(0, " + number + ") of " + cakes, -3, x.lists(0, number));
                due("missing ahead of the number", -6, x.lists(1, number));
                for (int tray : BAD_TRAYS) {
                    due("the tray ahead of the number", -2, x.lists(tray, number));
                }
            }
            for (int tray : BAD_TRAYS) {
                due("lists(" + tray + ", 0)", -2, x.lists(tray, 0));
            }
            due("missing", -6, x.lists(3, 0));
            due("missing", -6, x.lists(1, all - 1));
            due("the tray stays", 2, x.judge(0, 3));
            x.numbers(2, 0, 0);
            due("into no places, a number that can't be", -3, x.lists(2, all));
        }
    }

    /** Each cake is looked at by itself: the tray is judged with the others made turns by habit of none. */
    private static void listed(int sort, int number, int[] stack) {
        for (int i = 0; i < 3; i++) {
            GriddleTurn x = Check.told("plate heat 0;cake 1;cake 2;cake 3;habit:0;");
            x.numbers(0, sort, 4);
            x.write(0, 3, 17);
            due("lists", 3, x.lists(0, number));
            for (int other = 0; other < 3; other++) {
                if (other != i) {
                    x.write(0, other, 0);
                }
            }
            String name = Texts.cakes(stack) + " at " + i;
            due(name + " can be", stack[i] < 0 ? i : -1, x.judge(0, 0));
            int k = Math.max(stack[i], 0);
            due(name + " work", k * (k + 1) / 2, x.judge(0, 3));
            x.write(0, i, 0);
            due("what lies behind stays", 4, x.perform(0));
            due("what lies behind stays", 7, x.count(1));
        }
        // those below 0: turned over again they come as they are
        GriddleTurn y = Check.told("plate heat 0;cake 1;cake 2;cake 3;habit:0;");
        for (int i = 0; i < 3; i++) {
            if (stack[i] < 0) {
                y.numbers(0, sort, 3);
                y.lists(0, number ^ 4 >> i);
                for (int other = 0; other < 3; other++) {
                    if (other != i) {
                        y.write(0, other, 0);
                    }
                }
                due("the other side of it", -stack[i] * (1 - stack[i]) / 2, y.judge(0, 3));
            }
        }
    }

    private static void image() {
        edges.says(40, "An IMAGE is made: 0. -2.");
        GriddleTurn x = Check.told("plate heat 3;cake 2;cake 1;");
        for (int i : new int[] {Integer.MIN_VALUE, -1, 2, 3, 32, Integer.MAX_VALUE}) {
            due("image(" + i + ")", -2, x.image(i));
            due("restore(" + i + ")", -2, x.restore(i));
        }
        due("none was made", -5, x.restore(0));
        due("none was made", -5, x.restore(1));
        x.turn(1);
        due("image(1)", 0, x.image(1));
        due("can be undone still", 1, x.count(3));
        due("not the other one", -5, x.restore(0));
        due("image(0)", 0, x.image(0));
        x.turn(2);
        due("again, in place of it", 0, x.image(0));
        due("undo leaves it", 1, x.undo(1));
        due("restore(0)", 0, x.restore(0));
        due("as it was when made last", 2, x.lies(0));
        due("restore(1)", 0, x.restore(1));
        due("as it was then", 6, x.lies(0));
    }

    private static void same(GriddleTurn x, String when, int[] counts, int stack, int habit, int why) {
        for (int what = 0; what < counts.length; what++) {
            due(when + " count(" + what + ")", counts[what], x.count(what));
        }
        due(when + " lies(0)", stack, x.lies(0));
        due(when + " habit()", habit, x.habit());
        due(when + " why(1)", why, x.why(1));
    }

    private static void restore() {
        edges.says(41, "All that is in an IMAGE is as it was: 0. -2; -5: none was made.");
        GriddleTurn x = new GriddleTurn();
        due("restore(0)", -5, x.restore(0));
        due("restore(1)", -5, x.restore(1));
        due("restore(2)", -2, x.restore(2));
        due("restore(-1)", -2, x.restore(-1));
        due("without a text", 0, x.image(1));
        Check.tell(x, "plate heat 3;cake 2 up;cake 1;may:many=2;habit:2;");
        x.turn(2);
        x.heat(4);
        due("with one", 0, x.image(0));
        same(x, "with one", new int[] {2, 4, 3, 2, 0, 5}, 2, 2, 2);
        x.undo(1);
        x.feed(0, 0, 0, 0, 0);
        Check.fillTray(x, 0, 0, 19, 2);
        due("restore(1)", 0, x.restore(1));
        same(x, "without a text", new int[] {1, 0, 0, 0, 20, 0}, 0, 1, 0);
        due("undo(1)", -3, x.undo(1));
        due("restore(0)", 0, x.restore(0));
        same(x, "with one", new int[] {2, 4, 3, 0, 20, 5}, 2, 2, 2);
        due("undo(1)", -3, x.undo(1));
        due("trays stay", 2, x.perform(0));
        same(x, "done", new int[] {2, 9, 6, 1, 20, 5}, 6, 2, 2);
        due("restored again", 0, x.restore(0));
        same(x, "with one", new int[] {2, 4, 3, 0, 20, 5}, 2, 2, 2);
        edges.says(Edges.TERMS, "IMAGES 0 to 1: THE PLATE and what a call could bring back by UNDOING; nothing can be UNDONE behind");
        // the laws and the sizes, not only how it lay: both images of unlike numbers of cakes, one after the other
        due("the tape is read, and empty then", -31, x.plate(20));
        Check.tell(x, "plate heat 8;cake 5;cake 1 up;cake 4;cake 2;cake 3;habit:3;");
        x.image(1);
        for (int times = 0; times < 3; times++) {
            due("restore(0)", 0, x.restore(0));
            same(x, "of two", new int[] {2, 4, 3, 0, 0, 5}, 2, 2, 2);
            due("stacks", 8, x.lies(1));
            due("cheapest", -1, x.cheapest(0, 0));
            due("stands", 2, x.stands());
            due("restore(1)", 0, x.restore(1));
            same(x, "of five", new int[] {5, 8, 0, 0, 0, 7}, x.lies(0), 3, 0);
            due("stacks", 3840, x.lies(1));
            due("top", 5, x.cake(0, 0));
            due("stands", 3840, x.stands());
            x.turn(5);
            due("can be undone", 1, x.count(3));
        }
        due("restored", 0, x.restore(1));
        due("undo(1)", -3, x.undo(1));
    }

    private static void counts() {
        edges.says(42, "0 PANCAKES, 1 HEAT, 2 WORK in all, 3 calls that can be UNDONE, 4 bytes on THE TAPE, 5 LINES. NONE for others.");
        GriddleTurn x = new GriddleTurn();
        same(x, "new", new int[] {1, 0, 0, 0, 0, 0}, 0, 1, 0);
        for (int what : new int[] {Integer.MIN_VALUE, -2, -1, 6, 7, Integer.MAX_VALUE}) {
            due("count(" + what + ")", -1, x.count(what));
        }
        Check.tell(x, "plate heat 9;cake 5;cake 1 up;cake 4;cake 2;cake 3;may:1=1;");
        same(x, "told", new int[] {5, 9, 0, 0, 0, 7}, x.lies(0), 1, 0);
        x.turn(5);
        x.turn(5);
        x.heat(1);
        x.feed(0, 0, 0, 0, 0);
        x.feed(0, 0, 0, 0, 0);
        same(x, "turned", new int[] {5, 1, 30, 3, 40, 7}, x.lies(0), 1, 0);
        // the most work there can be by one call, ten times
        GriddleTurn most = Check.told("plate heat 0;cake 1;cake 2;cake 3;cake 4;cake 5;habit:5;");
        for (int i = 1; i <= 10; i++) {
            most.habits(99);
            due("work in all", 1485L * i, most.count(2));
        }
    }
}
