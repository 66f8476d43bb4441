/** Promises 33 and 34: what one can force on top if two turn by turns. */
public final class ForcesTest {
    private static final Check CHECK = new Check("ForcesTest");

    public static void main(String[] args) {
        GriddleTurn x = Check.told("plate heat 0;cake 3 up;cake 1;cake 2;");
        force(x, 3, 0, -1);
        force(x, 1, 1, 2);
        force(x, 2, 1, 3);
        force(x, 0, -2, -2);
        force(x, 4, -2, -2);
        force(x, -1, -2, -2);
        // the first one must turn 1, then the other one must turn 2
        GriddleTurn two = Check.told("plate heat 0;cake 1;cake 2;may:many=up+1;");
        force(two, 2, 2, 1);
        // the other one can turn 1 again, for ever
        force(Check.told("plate heat 0;cake 1;cake 2;may:many=1 or up=1;"), 2, -1, -1);
        // nobody can turn
        GriddleTurn none = Check.told("plate heat 0;cake 1;cake 2;may:many=heat;");
        force(none, 2, -1, -1);
        force(none, 1, 0, -1);
        none.heat(2);
        force(none, 2, 1, 2);
        three();
        firstOfLike();
        CHECK.end();
    }

    private static void force(GriddleTurn x, int size, int turns, int k) {
        CHECK.due("forces " + size, turns, x.forces(size));
        CHECK.due("best " + size, k, x.best(size));
    }

    /** Laws by which both have but one turn each time. */
    private static void three() {
        GriddleTurn x = Check.told("plate heat 0;cake 1;cake 2;cake 3;may:many=up+1;");
        // 1 up, 2, 3; 2 up, 1, 3; 1, 2 up, 3 ..
        force(x, 2, 2, 1);
        force(x, 3, -1, -1);
        GriddleTurn y = Check.told("plate heat 0;cake 1;cake 2;cake 3;may:many=up+1 and top=1 or many=3 and top=2;");
        // 1 up, 2, 3; 2 up, 1, 3; 3 up, 1 up, 2
        force(y, 3, 3, 1);
    }

    private static void firstOfLike() {
        // by 1 and by 2 alike it takes two turns more, as the other one must turn 3 then
        GriddleTurn x = Check.told("plate heat 0;cake 1;cake 2;cake 3;may:up=0 and many<3 or up>0 and many=3;");
        force(x, 3, 2, 1);
        GriddleTurn y = Check.told("plate heat 0;cake 1;cake 2;cake 3;may:up=0 and not many=1 or up>0 and many=3;");
        force(y, 3, 1, 3);
        GriddleTurn z = Check.told("plate heat 0;cake 1;cake 2;cake 3;may:up=0 and many=2 or up>0 and many=3;");
        force(z, 3, 2, 2);
    }
}
