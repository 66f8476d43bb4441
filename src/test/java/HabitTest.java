/** Promises 22 to 25: where habit leads. Two pancakes, those with 2 on top are turned both, else one. */
public final class HabitTest {
    private static final Check CHECK = new Check("HabitTest");
    private static final String LAW = "habit:if top=2 then 2 else 1 end;";

    public static void main(String[] args) {
        // 6 leads to 2, 2 to 0, 0 to 2
        GriddleTurn x = Check.told("plate heat 0;cake 2 up;cake 1;" + LAW);
        int[] numbers = {6, 2, 0, 2, 0, 2};
        for (int n = 0; n < numbers.length; n++) {
            due("at " + n, numbers[n], x.at(n));
        }
        due("very far", 0, x.at(1000000000000000L));
        due("one less", 2, x.at(999999999999999L));
        due("too far", -3, x.at(1000000000000001L));
        due("below 0", -3, x.at(-1));
        due("very far below 0", -3, x.at(Long.MIN_VALUE));
        due("very far", -3, x.at(Long.MAX_VALUE));
        due("lead", 1, x.round(0));
        due("length", 2, x.round(1));
        due("round(2)", -2, x.round(2));
        due("round(-1)", -2, x.round(-1));
        due("soon", 2, x.soon());
        due("tidy", 4, x.tidy());
        due("nothing changed", 6, x.lies(0));
        due("no work", 0, x.count(2));
        x.turn(2);
        due("soon", 1, x.soon());
        due("lead", 0, x.round(0));
        x.turn(1);
        due("it is so", 0, x.soon());
        never();
        heat();
        own();
        CHECK.end();
    }

    private static void due(String call, long want, long got) {
        CHECK.due(call, want, got);
    }

    private static void never() {
        GriddleTurn x = Check.told("plate heat 0;cake 1;cake 2 up;" + LAW);
        due("never", -1, x.soon());
        due("lead", 0, x.round(0));
        due("length", 2, x.round(1));
        GriddleTurn idle = Check.told("plate heat 0;cake 1;cake 2 up;may:1=2;");
        due("none is turned", 1, idle.at(1000000000000000L));
        due("lead", 0, idle.round(0));
        due("length", 1, idle.round(1));
        due("never", -1, idle.soon());
        due("only itself", 1, idle.tidy());
    }

    /** Both laws and the heat tell where it goes. */
    private static void heat() {
        GriddleTurn x = Check.told("plate heat 0;cake 2 up;cake 1;may:not heat=2;habit:if heat=0 then 2 else heat end;");
        due("both", 2, x.at(1));
        due("tidy", 2, x.tidy());
        x.heat(1);
        due("one", 4, x.at(1));
        due("tidy", 2, x.tidy());
        x.heat(2);
        due("it may not", 6, x.at(1));
        due("tidy", 1, x.tidy());
        x.undo(2);
        due("both", 2, x.at(1));
    }

    /** Without a law: 0 leads to 7, 7 to 5, 5 to 7. */
    private static void own() {
        GriddleTurn x = Check.told("plate heat 0;cake 1;cake 2;");
        due("at 1", 7, x.at(1));
        due("at 2", 5, x.at(2));
        due("at 3", 7, x.at(3));
        due("lead", 1, x.round(0));
        due("length", 2, x.round(1));
        due("soon", 0, x.soon());
        due("tidy", 1, x.tidy());
    }
}
