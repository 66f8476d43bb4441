/** Promises 37 to 42: trays, images, counts. */
public final class TraysTest {
    private static final Check CHECK = new Check("TraysTest");

    public static void main(String[] args) {
        numbers();
        written();
        listed();
        images();
        counts();
        CHECK.end();
    }

    private static void due(String call, long want, long got) {
        CHECK.due(call, want, got);
    }

    private static void numbers() {
        GriddleTurn x = new GriddleTurn();
        due("tray", -2, x.numbers(4, 0, 1));
        due("tray", -2, x.numbers(-1, 0, 1));
        due("sort", -2, x.numbers(0, 4, 41));
        due("sort", -2, x.numbers(0, -1, 1));
        due("n", -3, x.numbers(0, 0, -1));
        due("n", -3, x.numbers(0, 0, 41));
        due("missing still", -6, x.write(0, 0, 1));
        due("none", 0, x.numbers(0, 0, 0));
        due("no such number", -7, x.write(0, 0, 1));
        due("forty", 0, x.numbers(0, 1, 40));
        due("last", 19, x.write(0, 39, 19));
        due("deeds of 0 and heat 9", -1, x.judge(0, 0));
        due("refused", -3, x.numbers(0, 1, 41));
        due("stays", 40, x.perform(0));
        due("heat", 9, x.count(1));
        due("in place of it", 0, x.numbers(0, 1, 40));
        due("all 0", 40, x.perform(0));
        due("heat", 9, x.count(1));
        x.write(0, 0, 99);
        x.write(0, 1, 99);
        due("shorter", 0, x.numbers(0, 1, 2));
        due("two", 2, x.perform(0));
    }

    private static void written() {
        GriddleTurn x = new GriddleTurn();
        due("tray", -2, x.write(4, 99, 1));
        due("tray", -2, x.write(-1, 0, 1));
        due("missing", -6, x.write(1, 99, 1));
        long v = 0x1234_5678_9abc_def0L;
        long[] cut = {(byte) 0xf0, (short) 0xdef0, 0x9abcdef0, v};
        for (int sort = 0; sort < 4; sort++) {
            x.numbers(sort, sort, 3);
            due("cut to " + sort, cut[sort], x.write(sort, 2, v));
            due("below 0", -1, x.write(sort, 0, -1));
            due("place", -7, x.write(sort, 3, 1));
            due("place", -7, x.write(sort, -1, 1));
        }
        due("127", 127, x.write(0, 0, 127));
        due("128", -128, x.write(0, 0, 128));
        due("256", 0, x.write(0, 0, 256));
        due("32768", -32768, x.write(1, 0, 32768));
        due("1 << 31", Integer.MIN_VALUE, x.write(2, 0, 1L << 31));
        due("least", Long.MIN_VALUE, x.write(3, 0, Long.MIN_VALUE));
    }

    private static void listed() {
        GriddleTurn x = Check.told("plate heat 0;cake 1;cake 2;cake 3;");
        due("tray", -2, x.lists(4, -1));
        due("tray", -2, x.lists(-1, 0));
        due("missing", -6, x.lists(0, -1));
        x.numbers(0, 0, 5);
        due("number", -3, x.lists(0, -1));
        due("number", -3, x.lists(0, 48));
        for (int i = 0; i < 5; i++) {
            x.write(0, i, 12);
        }
        // 2, 3 up, 1: deeds can't be at the second place then
        due("lists", 3, x.lists(0, 26));
        due("2, then below 0", 1, x.judge(0, 0));
        x.write(0, 1, 3);
        due("2, 3, 1, 12, 12", -1, x.judge(0, 0));
        due("work", 3 + 6 + 3, x.judge(0, 3));
        x.numbers(0, 2, 2);
        due("as far as it has places", 2, x.lists(0, 47));
        x.numbers(0, 3, 0);
        due("no places", 0, x.lists(0, 47));
        // 1, 3, 2 lying as the ninth to sixteenth numbers
        x.numbers(0, 0, 3);
        due("lists", 3, x.lists(0, 8));
        due("sizes to be seen", 1, x.seen(0));
        due("by 1", 1, x.seenBy(0, 0));
        due("by 3", 3, x.seenBy(0, 1));
    }

    private static void images() {
        GriddleTurn x = Check.told("plate heat 3;cake 2 up;cake 1;may:many<3;habit:1;");
        due("image(2)", -2, x.image(2));
        due("image(-1)", -2, x.image(-1));
        due("restore(2)", -2, x.restore(2));
        due("restore(-1)", -2, x.restore(-1));
        due("none made", -5, x.restore(0));
        x.turn(2);
        x.heat(5);
        due("image(0)", 0, x.image(0));
        due("still to be undone", 2, x.count(3));
        due("the other one", -5, x.restore(1));
        x.turn(1);
        Check.fillTray(x, 0, 0, 1, 2);
        due("another plate", 6, Check.tell(x, "plate heat 7;cake 3;cake 1;cake 2;may:1=2;habit:3;"));
        due("image(1)", 0, x.image(1));
        x.heat(8);
        x.feed(0, 0, 0, 0, 0);
        due("restore(0)", 0, x.restore(0));
        int[] counts = {2, 5, 3, 0, 20, 5};
        for (int what = 0; what < counts.length; what++) {
            due("count " + what, counts[what], x.count(what));
        }
        due("lies", 2, x.lies(0));
        due("stacks", 8, x.lies(1));
        due("habit", 1, x.habit());
        due("may", 0, x.why(2));
        due("cheapest", 1, x.cheapest(0, 0));
        due("nothing to be undone", -3, x.undo(1));
        due("tray stays", 2, x.perform(0));
        due("restore(1)", 0, x.restore(1));
        due("heat", 7, x.count(1));
        due("lies", 4 * 8, x.lies(0));
        due("may", 2, x.why(1));
        due("cheapest", -1, x.cheapest(0, 0));
        due("image over an old one", 0, x.image(0));
        due("restore(0)", 0, x.restore(0));
        due("cakes", 3, x.count(0));
        GriddleTurn fresh = new GriddleTurn();
        fresh.image(0);
        Check.tell(fresh, "plate heat 7;cake 3;cake 1;cake 2;");
        fresh.restore(0);
        due("one cake", 1, fresh.count(0));
        due("no lines", 0, fresh.count(5));
        due("no heat", 0, fresh.count(1));
    }

    private static void counts() {
        GriddleTurn x = Check.told("plate heat 3;cake 2 up;cake 1;");
        x.turn(1);
        x.feed(0, 0, 0, 0, 0);
        int[] counts = {2, 3, 2, 1, 20, 3};
        for (int what = 0; what < counts.length; what++) {
            due("count " + what, counts[what], x.count(what));
        }
        due("count(6)", -1, x.count(6));
        due("count(-1)", -1, x.count(-1));
    }
}
