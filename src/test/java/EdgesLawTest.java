import java.io.IOException;

/** The edges of turns and laws: the second part of the Terms, and promises 5 to 8. */
public final class EdgesLawTest {
    /** In order from the top on, none burnt side up. */
    private static final String[] ORDER = {"", "cake 1;", "cake 1;cake 2;", "cake 1;cake 2;cake 3;",
        "cake 1;cake 2;cake 3;cake 4;", "cake 1;cake 2;cake 3;cake 4;cake 5;"};
    private static final int[] FAR = {Integer.MIN_VALUE, Integer.MIN_VALUE + 1, -1, 6, 7, 64, Integer.MAX_VALUE};
    private static final String MILLION = "999*999+999+999+1";
    private static Edges edges;

    public static void main(String[] args) throws IOException {
        edges = new Edges("EdgesLawTest");
        cakes();
        why();
        by();
        habit();
        turning();
        habitRest();
        right();
        facts();
        kept();
        truths();
        edges.end(5, 8);
    }

    private static void due(String call, long want, long got) {
        edges.due(call, want, got);
    }

    private static GriddleTurn ordered(int cakes, String laws) {
        return Check.told("plate heat 4;" + ORDER[cakes] + laws);
    }

    private static void cakes() {
        edges.says(5, "Of the i-th PANCAKE from the top (0 the topmost), what 0: SIZE, 1: 1 if it lies burnt side up, else 0. -2.");
        for (int n = 1; n <= 5; n++) {
            GriddleTurn x = ordered(n, "");
            x.turn(n);
            for (int i = 0; i < n; i++) {
                due("size " + i + " of " + n, n - i, x.cake(i, 0));
                due("up " + i + " of " + n, 1, x.cake(i, 1));
                due("cake(" + i + ", 2)", -2, x.cake(i, 2));
                due("cake(" + i + ", -1)", -2, x.cake(i, -1));
            }
            due("cake(" + n + ", 0)", -2, x.cake(n, 0));
            due("cake(" + n + ", 1)", -2, x.cake(n, 1));
            due("cake(-1, 0)", -2, x.cake(-1, 0));
            due("cake(-1, 1)", -2, x.cake(-1, 1));
            for (int far : FAR) {
                due("cake(" + far + ", 0)", -2, x.cake(far, 0));
                due("cake(0, " + far + ")", -2, x.cake(0, far));
            }
        }
    }

    private static void why() {
        edges.says(6, "Why a TURN of k can't be (0: it can; 1: k below 1, or above as many as there are).");
        for (int n = 1; n <= 5; n++) {
            GriddleTurn free = ordered(n, "");
            GriddleTurn never = ordered(n, "may:1=2;");
            for (int k = 1; k <= n; k++) {
                due("why(" + k + ") of " + n, 0, free.why(k));
                due("why(" + k + ") of " + n + " by the law", 2, never.why(k));
            }
            for (int k : new int[] {Integer.MIN_VALUE, -1, 0, n + 1, n + 2, 6, 32, 33, Integer.MAX_VALUE}) {
                due("why(" + k + ") of " + n, 1, free.why(k));
                due("why(" + k + ") of " + n + " ahead of the law", 1, never.why(k));
            }
        }
    }

    private static void by() {
        edges.says(7, "By a TURN of k now, what 0: the STACK's number, 1: how many lie RIGHT, 2: the SIZE on top then, 3: the WORK.");
        GriddleTurn one = new GriddleTurn();
        int[] only = {1, 0, 1, 1};
        for (int what = 0; what < 4; what++) {
            due("by(1, " + what + ") of one", only[what], one.by(1, what));
        }
        GriddleTurn five = ordered(5, "");
        int[] work = {0, 1, 3, 6, 10, 15};
        int[] left = {0, 4, 3, 2, 1, 0};
        for (int k = 1; k <= 5; k++) {
            due("right by " + k, left[k], five.by(k, 1));
            due("top by " + k, k, five.by(k, 2));
            due("work by " + k, work[k], five.by(k, 3));
        }
        // 5 .. 1, all up, is the last of all
        due("number by 5", 3839, five.by(5, 0));
        due("number by 1", 16, five.by(1, 0));
        due("nothing changed", 0, five.lies(0));
        edges.says(7, "-2: what; -5: it can't be.");
        GriddleTurn law = ordered(3, "may:not many=2;");
        for (int what = 0; what < 4; what++) {
            due("by(0, " + what + ")", -5, law.by(0, what));
            due("by(2, " + what + ")", -5, law.by(2, what));
            due("by(4, " + what + ")", -5, law.by(4, what));
            due("by(3, " + what + ") can be", 1, law.by(3, what) >= 0 ? 1 : 0);
            due("by(-1, " + what + ")", -5, law.by(Integer.MIN_VALUE, what));
            due("by(far, " + what + ")", -5, law.by(Integer.MAX_VALUE, what));
        }
        for (int what : new int[] {-1, 4, 5, Integer.MIN_VALUE, Integer.MAX_VALUE}) {
            due("by(1, " + what + ")", -2, law.by(1, what));
            due("what ahead of what can't be", -2, law.by(0, what));
            due("what ahead of the law", -2, law.by(2, what));
        }
    }

    private static void habit() {
        edges.says(8, "How many HABIT turns now (0: none is turned).");
        for (int n = 1; n <= 5; n++) {
            for (int k = 0; k <= n; k++) {
                due("habit of " + k, k, ordered(n, "habit:" + k + ";").habit());
                due("of what may not be", 0, ordered(n, "habit:" + k + ";may:not many=" + k + ";").habit());
                due("of just what may be", k, ordered(n, "habit:" + k + ";may:many=" + k + ";").habit());
            }
        }
        GriddleTurn x = ordered(2, "habit:heat;");
        due("heat 4 by 3", 1, x.habit());
        x.heat(9);
        due("heat 9 by 3", 0, x.habit());
        x.heat(8);
        due("heat 8 by 3", 2, x.habit());
        x.undo(2);
        due("heat 4 by 3", 1, x.habit());
    }

    private static void turning() {
        edges.says(Edges.TERMS, "A TURN of k (1 to as many PANCAKES as there are): the k topmost come to lie the other "
                + "way round, each on its other side.");
        for (int n = 1; n <= 5; n++) {
            for (int k = 1; k <= n; k++) {
                GriddleTurn x = ordered(n, "");
                x.turn(k);
                for (int i = 0; i < n; i++) {
                    due("size " + i + " of " + n + " by " + k, i < k ? k - i : i + 1, x.cake(i, 0));
                    due("up " + i + " of " + n + " by " + k, i < k ? 1 : 0, x.cake(i, 1));
                }
                x.turn(k);
                due("twice", 0, x.lies(0));
            }
        }
        edges.says(Edges.TERMS, "It can be if the law may holds (without one: always).");
        GriddleTurn x = ordered(4, "may:many<heat-1 or many=4;");
        int[] why = {1, 0, 0, 2, 0, 1};
        for (int k = 0; k < why.length; k++) {
            due("why(" + k + ")", why[k], x.why(k));
        }
        edges.says(Edges.TERMS, "WORK of a TURN: the SIZES of all that are turned, added up.");
        GriddleTurn back = Check.told("plate heat 0;cake 5;cake 2 up;cake 4;cake 1 up;cake 3;");
        int[] work = {0, 5, 7, 11, 12, 15};
        for (int k = 1; k <= 5; k++) {
            due("work of " + k, work[k], back.by(k, 3));
        }
    }

    private static void habitRest() {
        edges.says(Edges.TERMS, "the rest of what the law habit tells by one more than there are PANCAKES (0 or more, of a "
                + "number below 0, too;");
        for (int n = 1; n <= 5; n++) {
            for (int told = -14; told <= 14; told++) {
                int rest = told;
                while (rest < 0) {
                    rest += n + 1;
                }
                while (rest > n) {
                    rest -= n + 1;
                }
                String sum = told < 0 ? "0-" + -told : "" + told;
                due(sum + " of " + n, rest, ordered(n, "habit:" + sum + ";").habit());
            }
        }
        // a million is 4 by 6, 0 by 5, 0 by 2; below 0 it is 2 by 6
        due("a million", 4, ordered(5, "habit:" + MILLION + "+999;").habit());
        due("a million below 0", 2, ordered(5, "habit:0-999*999*999;").habit());
        due("a million", 0, ordered(4, "habit:999*999*999;").habit());
        edges.says(Edges.TERMS, "without one: 1 more than lie RIGHT from the plate on, as many as there are at most)");
        for (int n = 1; n <= 5; n++) {
            due("all lie right", n, ordered(n, "").habit());
            for (int k = 1; k <= n; k++) {
                GriddleTurn x = ordered(n, "");
                x.turn(k);
                due("n - k lie right", n - k + 1, x.habit());
            }
        }
        edges.says(Edges.TERMS, "of 0 or of such that may not be: none is turned.");
        GriddleTurn none = Check.told("plate heat 0;cake 2 up;cake 1;habit:3;");
        due("of 0", 0, none.habits(1));
        due("as it lay", 6, none.lies(0));
        due("no work", 0, none.count(2));
        GriddleTurn never = Check.told("plate heat 0;cake 2 up;cake 1;habit:2;may:many=1;");
        due("may not be", 0, never.habits(9));
        due("as it lay", 6, never.lies(0));
        due("no work", 0, never.count(2));
        due("at", 6, never.at(7));
    }

    private static void right(String cakes, int want) {
        GriddleTurn x = Check.told("plate heat 0;" + cakes);
        due(cakes, want, x.lies(2));
        due(cakes + " habit", Math.min(want + 1, x.count(0)), x.habit());
    }

    private static void right() {
        edges.says(Edges.TERMS, "RIGHT: from the plate on upwards, the greatest one, the next one .., each burnt side down, "
                + "till the first one for which it isn't so: how many.");
        right("cake 1;", 1);
        right("cake 1 up;", 0);
        right("cake 1;cake 2;cake 3;cake 4;cake 5;", 5);
        right("cake 1 up;cake 2;cake 3;cake 4;cake 5;", 4);
        right("cake 1;cake 2 up;cake 3;cake 4;cake 5;", 3);
        right("cake 1;cake 2;cake 3 up;cake 4;cake 5;", 2);
        right("cake 1;cake 2;cake 3;cake 4 up;cake 5;", 1);
        right("cake 1;cake 2;cake 3;cake 4;cake 5 up;", 0);
        right("cake 2;cake 1;cake 3;cake 4;cake 5;", 3);
        right("cake 1;cake 3;cake 2;cake 4;cake 5;", 2);
        right("cake 1;cake 2;cake 4;cake 3;cake 5;", 1);
        right("cake 1;cake 2;cake 3;cake 5;cake 4;", 0);
        right("cake 5;cake 1;cake 2;cake 3;cake 4;", 0);
        right("cake 2 up;cake 1;cake 3;", 1);
        // the order ends it ahead of the side, and the other way round
        right("cake 2;cake 1 up;cake 3;cake 4 up;", 0);
        right("cake 3;cake 2;cake 1 up;cake 4;", 1);
    }

    private static void facts() {
        String cakes = "cake 3 up;cake 1;cake 4 up;cake 2;";
        edges.says(Edges.TERMS, "top: the SIZE of the topmost; up: how many lie burnt side up; heat: the HEAT;");
        fact(cakes, "top=3 and up=2 and heat=7", 1, 0);
        fact(cakes, "top=3 and up=2 and heat=7", 4, 0);
        fact(cakes, "top<3 or top>3 or up<2 or up>2 or heat<7 or heat>7", 2, 2);
        fact("cake 1;cake 2;", "up=0", 1, 0);
        fact("cake 2 up;cake 1 up;", "up=2", 1, 0);
        due("top by habit", 3, Check.told("plate heat 7;" + cakes + "habit:top;").habit());
        due("up by habit", 2, Check.told("plate heat 7;" + cakes + "habit:up;").habit());
        due("heat by habit", 2, Check.told("plate heat 7;" + cakes + "habit:heat;").habit());
        edges.says(Edges.TERMS, "under: in may the SIZE of the one below the k (0: the plate), in habit of the lowest one;");
        int[] under = {0, 1, 4, 2, 0};
        for (int k = 1; k <= 4; k++) {
            for (int size = 0; size <= 5; size++) {
                fact(cakes, "under=" + size, k, under[k] == size ? 0 : 2);
            }
        }
        fact("", "under=0", 1, 0);
        due("of the lowest", 2, Check.told("plate heat 7;" + cakes + "habit:under;").habit());
        due("of the only one", 1, Check.told("plate heat 7;habit:under;").habit());
        edges.says(Edges.TERMS, "many: k; right: how many lie RIGHT.");
        for (int k = 1; k <= 4; k++) {
            for (int many = 0; many <= 5; many++) {
                fact(cakes, "many=" + many, k, k == many ? 0 : 2);
            }
        }
        due("none right", 0, Check.told("plate heat 7;" + cakes + "habit:right;").habit());
        for (int n = 1; n <= 5; n++) {
            due("all right", n, ordered(n, "habit:right;").habit());
        }
        // in may as it lies now, not as it would lie then
        fact("cake 1 up;cake 2;", "up=1 and top=1", 2, 0);
    }

    private static void fact(String cakes, String truth, int k, int want) {
        GriddleTurn x = Check.told("plate heat 7;" + cakes + "may:" + truth + ";");
        due(cakes + truth + " of " + k, want, x.why(k));
    }

    private static void holds(String truth, boolean want) {
        due(truth, want ? 0 : 2, Check.told("plate heat 0;may:" + truth + ";").why(1));
    }

    private static void kept() {
        edges.says(Edges.TERMS, "Each + - * is kept from -1,000,000 to 1,000,000;");
        String less = "999*999+999+999";
        String low = "0-999*999-999-999";
        // by plus
        holds(MILLION + ">" + less, true);
        holds(MILLION + "+1=" + MILLION, true);
        holds(less + "+2=" + MILLION, true);
        holds(less + "+999-1=" + less, true);
        holds(less + "+1-1=" + less, true);
        holds("(" + low + "-1)+(" + low + ")=" + low + "-1", true);
        holds("(" + low + "-1)+(0-1)+1=" + low, true);
        // by minus
        holds(low + "-1<" + low, true);
        holds(low + "-2=" + low + "-1", true);
        holds(low + "-2+1=" + low, true);
        holds(MILLION + "-(0-1)=" + MILLION, true);
        holds(MILLION + "-(0-1)-1=" + less, true);
        holds(low + "-1+1=" + low, true);
        // by times
        holds("999*999*2=" + MILLION, true);
        holds("500*2*500*2=" + MILLION, true);
        holds("500*2*500*2-1=" + less, true);
        holds("500*2*500*2-1=" + MILLION, false);
        holds("101*99*100=" + less, false);
        holds("101*99*100=" + MILLION + "-100", true);
        holds("999*999*999*999-1=" + less, true);
        holds("(0-999)*999*2=" + low + "-1", true);
        holds("(0-999)*999*999+1=" + low, true);
        holds("(0-500)*2*500*2=" + low + "-1", true);
        holds("(" + low + "-1)*(" + low + "-1)=" + MILLION, true);
        holds("(" + low + "-1)*(" + MILLION + ")=" + low + "-1", true);
        // each in its turn, from the left
        holds("999*999*2-999*999=999+999+1", true);
        holds("0-999*999-999*999+999*999=0-999-999-1", true);
        holds("2-999*999*999+999*999*999=2", true);
        holds("2+999*999*999-999*999*999=0", true);
    }

    private static void truths() {
        edges.says(Edges.TERMS, "if tells the one SUM, if the TRUTH holds, else the other one.");
        holds("if 1=1 then 7 else 8 end=7", true);
        holds("if 1=2 then 7 else 8 end=8", true);
        holds("if 1=2 then 7 else if 1=1 then 8 else 9 end end=8", true);
        holds("if 1=2 then if 1=1 then 6 else 7 end else if 1=2 then 8 else 9 end end=9", true);
        holds("2*if 1=1 then 3 else 4 end+1=7", true);
        holds("if 1=1 then 999*999*999 else 0 end-1=999*999+999+999", true);
        edges.says(Edges.TERMS, "TRUTH: BOTH { or BOTH }; BOTH: UNIT { and UNIT }; UNIT: not UNIT");
        for (int bits = 0; bits < 8; bits++) {
            boolean a = (bits & 1) != 0;
            boolean b = (bits & 2) != 0;
            boolean c = (bits & 4) != 0;
            String p = a ? "1=1" : "1=2";
            String q = b ? "1<2" : "2<1";
            String r = c ? "2>1" : "1>1";
            holds(p + " or " + q + " and " + r, a || b && c);
            holds(p + " and " + q + " or " + r, a && b || c);
            holds("[" + p + " or " + q + "]and " + r, (a || b) && c);
            holds(p + " and[" + q + " or " + r + "]", a && (b || c));
            holds("not " + p + " and " + q, !a && b);
            holds("not " + p + " or " + q, !a || b);
            holds("not[" + p + " or " + q + "]", !(a || b));
            holds("not not " + p, a);
            holds(p + " or " + q + " or " + r, a || b || c);
            holds(p + " and " + q + " and " + r, a && b && c);
        }
        for (int v = 0; v < 3; v++) {
            holds(v + "=1", v == 1);
            holds(v + "<1", v < 1);
            holds(v + ">1", v > 1);
        }
        edges.says(Edges.TERMS, "SUM: TERM { + TERM | - TERM }; TERM: ATOM { * ATOM }");
        holds("9-3-2=4", true);
        holds("9-(3-2)=8", true);
        holds("9-3+2=8", true);
        holds("2+3*4=14", true);
        holds("2*3+4*5=26", true);
        holds("2*(3+4)*5=70", true);
        holds("1-2*3=0-5", true);
    }
}
