/** Promises 28 to 32: which turns there can have been by what lay on top, what the heat is, what to try. */
public final class SeenTest {
    private static final Check CHECK = new Check("SeenTest");

    public static void main(String[] args) {
        seen();
        law();
        longest();
        heats();
        attempts();
        refused();
        CHECK.end();
    }

    private static void due(String call, long want, long got) {
        CHECK.due(call, want, got);
    }

    private static void tray(GriddleTurn x, long[] sizes, long rows, int[] first, int[] bits) {
        Check.fillTray(x, 2, 3, sizes);
        due("seen", rows, x.seen(2));
        for (int i = 0; i < sizes.length; i++) {
            due("seenBy " + i, first == null ? -1 : first[i], x.seenBy(2, i));
            due("turned " + i, bits[i], x.turned(2, i));
        }
        due("seenBy behind", -1, x.seenBy(2, sizes.length));
        due("turned behind", -7, x.turned(2, sizes.length));
        due("seenBy below 0", -3, x.seenBy(2, -1));
        due("turned below 0", -3, x.turned(2, -1));
    }

    private static void seen() {
        GriddleTurn x = Check.told("plate heat 0;cake 1;cake 2;");
        tray(x, new long[] {1}, 1, new int[] {1}, new int[] {2});
        tray(x, new long[] {2}, 1, new int[] {2}, new int[] {4});
        tray(x, new long[] {0}, 2, new int[] {1}, new int[] {6});
        tray(x, new long[] {1, 2}, 1, new int[] {1, 2}, new int[] {2, 4});
        tray(x, new long[] {2, 1}, 1, new int[] {2, 2}, new int[] {4, 4});
        tray(x, new long[] {0, 1}, 2, new int[] {1, 1}, new int[] {6, 6});
        tray(x, new long[] {0, 0, 2}, 4, new int[] {1, 1, 2}, new int[] {6, 6, 6});
        due("nothing changed", 0, x.lies(0));
    }

    private static void law() {
        GriddleTurn x = Check.told("plate heat 0;cake 1;cake 2;may:many=1 or up=1;");
        // from 0 by 1 to 2, from there by 2 to 6, as one is up
        tray(x, new long[] {2}, 0, null, new int[] {0});
        tray(x, new long[] {0, 2}, 1, new int[] {1, 2}, new int[] {2, 4});
        tray(x, new long[] {1, 1, 2}, 0, null, new int[] {0, 0, 0});
        tray(x, new long[] {0, 0, 0}, 3, new int[] {1, 1, 1}, new int[] {2, 6, 6});
        GriddleTurn none = Check.told("plate heat 0;cake 1;cake 2;may:1=2;");
        tray(none, new long[] {0}, 0, null, new int[] {0});
    }

    private static void longest() {
        GriddleTurn x = Check.told("plate heat 0;cake 1;cake 2;cake 3;cake 4;cake 5;");
        tray(x, new long[8], 390625, new int[] {1, 1, 1, 1, 1, 1, 1, 1}, new int[] {62, 62, 62, 62, 62, 62, 62, 62});
        // all, then the two topmost twice, then any
        tray(x, new long[] {5, 4, 5, 0}, 5, new int[] {5, 2, 2, 1}, new int[] {32, 4, 4, 62});
    }

    private static void heats() {
        GriddleTurn x = Check.told("plate heat 0;cake 1;cake 2;habit:heat;");
        heats(x, 292, 2);
        heats(x, 731, 1);
        heats(x, 731, 1, 1);
        heats(x, 0, 1, 2);
        heats(x, 292, 2, 1, 2, 1, 2, 1, 2, 1);
        due("heat stays", 0, x.count(1));
        GriddleTurn law = Check.told("plate heat 0;cake 1;cake 2;may:heat<4;habit:heat;");
        heats(law, 4, 2);
        heats(law, 1023 - 4, 1);
    }

    private static void heats(GriddleTurn x, int bits, long... sizes) {
        Check.fillTray(x, 0, 0, sizes);
        due("heats", bits, x.heats(0));
        if (bits == 0) {
            due("attempt of none", -1, x.attempt(0));
        }
    }

    private static void attempts() {
        // by habit 4 and 3 of 7 heats are alike, by what may be all 7
        attempt("habit:heat;", 0);
        // by habit all 10 are alike, by what may be 5 and 5
        attempt("habit:1;may:heat<5 or many=1;", 1);
        // alike: 5 and 5 either way
        attempt("habit:if heat<5 then 0 else 1 end;may:heat<5 or many=1;", 0);
        // by habit 6 and 4, by what may be 7 and 3
        attempt("habit:if heat<6 then 0 else 1 end;may:heat<7 or many=1;", 0);
        // by habit 7 and 3, by what may be 6 and 4
        attempt("habit:if heat<7 then 0 else 1 end;may:heat<6 or many=1;", 1);
    }

    private static void attempt(String laws, int want) {
        GriddleTurn x = Check.told("plate heat 9;cake 1;cake 2;" + laws);
        Check.fillTray(x, 0, 0, 1);
        due(laws, want, x.attempt(0));
    }

    private static void refused() {
        GriddleTurn x = Check.told("plate heat 0;cake 1;cake 2;");
        refused(x, -1, -2);
        refused(x, 4, -2);
        refused(x, 3, -6);
        Check.fillTray(x, 3, 1);
        refused(x, 3, -4);
        Check.fillTray(x, 3, 1, 1, 1, 1, 1, 1, 1, 1, 1, 9);
        refused(x, 3, -4);
        Check.fillTray(x, 3, 1, 1, 3);
        refused(x, 3, -3);
        Check.fillTray(x, 3, 1, -1);
        refused(x, 3, -3);
        Check.fillTray(x, 3, 3, (1L << 32) + 1);
        refused(x, 3, -3);
        Check.fillTray(x, 3, 3, 1, 0);
        due("0 is not for heats", -3, x.heats(3));
        due("0 is not for attempts", -3, x.attempt(3));
        due("0 is for seen", 2, x.seen(3));
    }

    private static void refused(GriddleTurn x, int tray, int code) {
        due("seen", code, x.seen(tray));
        due("seenBy", code, x.seenBy(tray, 0));
        due("seenBy, i below 0", code, x.seenBy(tray, -1));
        due("seenBy, i behind", code, x.seenBy(tray, 40));
        due("turned", code, x.turned(tray, 0));
        due("turned, i behind", code, x.turned(tray, 40));
        due("heats", code, x.heats(tray));
        due("attempt", code, x.attempt(tray));
    }
}
