/** Promises 35 and 36: how likely it lies in order if turns are drawn, how many lie right on the mean. */
public final class ChancesTest {
    private static final Check CHECK = new Check("ChancesTest");

    public static void main(String[] args) {
        GriddleTurn one = new GriddleTurn();
        chance(one, 0, 0, 1, 1);
        chance(one, 0, 1, 9, 10);
        chance(one, 0, 2, 41, 50);
        chance(one, 0, 3, 189, 250);
        chance(one, 1, 7, 1, 1);
        chance(one, 2, 2, 41, 50);
        mean(one, 0, 1, 1);
        mean(one, 3, 189, 250);
        GriddleTurn two = Check.told("plate heat 0;cake 1;cake 2;");
        chance(two, 0, 1, 4, 5);
        chance(two, 1, 1, 9, 10);
        // 64 by none, 1 by 1 twice, 1 by 2 twice of 100
        chance(two, 0, 2, 33, 50);
        mean(two, 0, 2, 1);
        mean(two, 1, 17, 10);
        GriddleTurn law = Check.told("plate heat 0;cake 1;cake 2;may:many=1;");
        chance(law, 0, 1, 9, 10);
        mean(law, 1, 19, 10);
        GriddleTurn still = Check.told("plate heat 0;cake 2;cake 1;may:1=2;");
        chance(still, 0, 7, 0, 1);
        chance(still, 2, 7, 1, 1);
        mean(still, 7, 0, 1);
        GriddleTurn five = Check.told("plate heat 0;cake 1;cake 2;cake 3;cake 4;cake 5;may:1=2;");
        chance(five, 0, 7, 1, 1);
        mean(five, 7, 5, 1);
        refused(two);
        CHECK.due("nothing changed", 0, two.lies(0));
        CHECK.end();
    }

    private static void chance(GriddleTurn x, int aim, int n, int above, int below) {
        CHECK.due("chance " + aim + " " + n + " above", above, x.chance(aim, n, 0));
        CHECK.due("chance " + aim + " " + n + " below", below, x.chance(aim, n, 1));
    }

    private static void mean(GriddleTurn x, int n, int above, int below) {
        CHECK.due("mean " + n + " above", above, x.mean(n, 0));
        CHECK.due("mean " + n + " below", below, x.mean(n, 1));
    }

    private static void refused(GriddleTurn x) {
        CHECK.due("aim", -2, x.chance(3, 8, 0));
        CHECK.due("aim", -2, x.chance(-1, 0, 0));
        CHECK.due("what", -2, x.chance(0, 8, 2));
        CHECK.due("what", -2, x.chance(0, 0, -1));
        CHECK.due("n", -3, x.chance(0, 8, 0));
        CHECK.due("n", -3, x.chance(0, -1, 0));
        CHECK.due("what", -2, x.mean(8, 2));
        CHECK.due("what", -2, x.mean(0, -1));
        CHECK.due("n", -3, x.mean(8, 0));
        CHECK.due("n", -3, x.mean(-1, 0));
    }
}
