/** Promises 26 and 27: which number a stack has, how out of order it is. */
public final class NumberedTest {
    private static final Check CHECK = new Check("NumberedTest");

    public static void main(String[] args) {
        lies("cake 1;cake 2;cake 3;cake 4;cake 5;", 0, 3840, 5, 0, 0, 5);
        lies("cake 5 up;cake 4 up;cake 3 up;cake 2 up;cake 1 up;", 3839, 3840, 0, 10, 1, 3);
        // one before the last of 24 orders
        lies("cake 4;cake 3 up;cake 1;cake 2 up;", 22 * 16 + 5, 384, 0, 5, 2, 1);
        lies("cake 2;cake 1;cake 3;cake 4;", 6 * 16, 384, 2, 1, 1, 3);
        lies("cake 1;cake 2;cake 3 up;cake 4;", 2, 384, 1, 0, 0, 4);
        lies("cake 1;cake 2;cake 3;cake 4 up;", 1, 384, 0, 0, 0, 4);
        lies("cake 3;cake 1;cake 2;", 4 * 8, 48, 0, 2, 2, 1);
        lies("cake 2 up;cake 1;", 6, 8, 0, 1, 1, 1);
        lies("", 0, 2, 1, 0, 0, 1);
        lies("cake 1 up;", 1, 2, 0, 0, 0, 1);
        stacks();
        CHECK.end();
    }

    private static void due(String call, long want, long got) {
        CHECK.due(call, want, got);
    }

    private static void lies(String cakes, int... want) {
        GriddleTurn x = Check.told("plate heat 0;" + cakes);
        for (int what = 0; what < want.length; what++) {
            due(cakes + " lies(" + what + ")", want[what], x.lies(what));
        }
        due("lies(6)", -2, x.lies(6));
        due("lies(-1)", -2, x.lies(-1));
    }

    private static void stacks() {
        GriddleTurn x = Check.told("plate heat 0;cake 1;cake 2;may:not heat=1 or many=1;");
        int[] ups = {0, 1, 1, 2, 0, 1, 1, 2};
        int[] hard = {0, 8, 1, 9, 6, 5, 4, 3};
        for (int number = 0; number < 8; number++) {
            due("ups of " + number, ups[number], x.stack(number, 0));
            due("top of " + number, number < 4 ? 1 : 2, x.stack(number, 1));
            due("hardness of " + number, hard[number], x.stack(number, 2));
        }
        x.heat(1);
        due("by turns of 1", 1, x.stack(2, 2));
        due("can't be", -1, x.stack(3, 2));
        due("stack(8, 0)", -3, x.stack(8, 0));
        due("stack(-1, 0)", -3, x.stack(-1, 0));
        due("stack(0, 3)", -2, x.stack(0, 3));
        due("stack(0, -1)", -2, x.stack(0, -1));
        due("what ahead of the number", -2, x.stack(8, 3));
        GriddleTurn five = Check.told("plate heat 0;cake 1;cake 2;cake 3;cake 5;cake 4;");
        due("last", 5, five.stack(3839, 0));
        due("last", 5, five.stack(3839, 1));
        due("behind the last", -3, five.stack(3840, 1));
    }
}
