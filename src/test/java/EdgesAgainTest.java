import java.io.IOException;
import java.util.ArrayList;
import java.util.List;

/**
 * What is asked behind another plate, another heat, an undoing or an image is answered as by a new object that was
 * told just so: nothing of what was asked ahead is left over.
 */
public final class EdgesAgainTest {
    private static final String[] LAWS = {"", "may:1=2;", "may:many>1;habit:0;", "habit:under+heat;may:up<2 or many>2;",
        "may:many=heat+1 or up>0;habit:top;", "may:many<3;habit:right+up;", "may:top+many>heat;habit:heat*2-up;"};
    private static final int[][] STACKS = {{-2, 1, 3}, {1, 2, 3}, {3, -1, -2}, {-1}, {2, -1}, {4, 1, -3, 2}};
    private static Edges edges;
    private static int first;

    private interface Ask {
        long of(GriddleTurn x);
    }

    private static final List<Ask> ASKS = new ArrayList<>();

    public static void main(String[] args) throws IOException {
        edges = new Edges("EdgesAgainTest");
        asks();
        plates();
        refusedPlates();
        heats();
        undone();
        images();
        wayFirst();
        betweenHeats();
        lawsGone();
        edges.end(0, 0);
    }

    private static void due(String call, long want, long got) {
        edges.due(call, want, got);
    }

    private static void asks() {
        for (int a = 0; a < 3; a++) {
            int aim = a;
            ASKS.add(x -> x.way(aim, 0));
            ASKS.add(x -> x.cheapest(aim, 0));
            ASKS.add(x -> x.way(aim, 1));
            ASKS.add(x -> x.hardest(aim, 0));
            ASKS.add(x -> x.hardest(aim, 2));
            ASKS.add(x -> x.asHard(aim, 3));
            ASKS.add(x -> x.rows(aim, 4));
            ASKS.add(x -> x.chance(aim, 3, 0));
        }
        ASKS.add(x -> x.stands());
        ASKS.add(x -> x.at(7));
        ASKS.add(x -> x.round(0));
        ASKS.add(x -> x.round(1));
        ASKS.add(x -> x.tidy());
        ASKS.add(x -> x.soon());
        ASKS.add(x -> x.stack(1, 2));
        ASKS.add(x -> x.seen(3));
        ASKS.add(x -> x.seenBy(3, 1));
        ASKS.add(x -> x.turned(3, 0));
        ASKS.add(x -> x.heats(2));
        ASKS.add(x -> x.attempt(2));
        ASKS.add(x -> x.forces(1));
        ASKS.add(x -> x.best(1));
        ASKS.add(x -> x.mean(2, 0));
        ASKS.add(x -> x.habit());
        ASKS.add(x -> x.why(1));
        ASKS.add(x -> x.why(2));
        ASKS.add(x -> x.lies(1));
    }

    private static GriddleTurn withTrays(GriddleTurn x) {
        Check.fillTray(x, 3, 0, 0, 1);
        Check.fillTray(x, 2, 0, 1);
        return x;
    }

    private static String text(int heat, int[] stack, String laws) {
        return "plate heat " + heat + ";" + Texts.cakes(stack) + laws;
    }

    /** Each question is first for once, so that none leans on what another one found. */
    private static void asNew(String name, String text, GriddleTurn x) {
        GriddleTurn y = withTrays(Check.told(text));
        first = (first + 5) % ASKS.size();
        for (int i = 0; i < ASKS.size(); i++) {
            int which = (first + i) % ASKS.size();
            due(name + " '" + text + "' question " + which, ASKS.get(which).of(y), ASKS.get(which).of(x));
        }
    }

    private static void plates() {
        edges.says(3, "The first n bytes of THE TAPE (which is empty then) are THE PLATE");
        for (int[] stack : STACKS) {
            for (String before : LAWS) {
                for (String then : LAWS) {
                    GriddleTurn x = withTrays(Check.told(text(1, stack, before)));
                    asNew("first", text(1, stack, before), x);
                    Check.tell(x, text(1, stack, then));
                    asNew("behind " + before, text(1, stack, then), x);
                }
            }
        }
        // another number of cakes, there and back
        for (int i = 0; i < STACKS.length; i++) {
            for (int j = 0; j < STACKS.length; j++) {
                GriddleTurn x = withTrays(Check.told(text(2, STACKS[i], LAWS[3])));
                asNew("first", text(2, STACKS[i], LAWS[3]), x);
                Check.tell(x, text(2, STACKS[j], LAWS[3]));
                asNew("then", text(2, STACKS[j], LAWS[3]), x);
                Check.tell(x, text(2, STACKS[i], LAWS[3]));
                asNew("back", text(2, STACKS[i], LAWS[3]), x);
            }
        }
    }

    private static void refusedPlates() {
        edges.says(3, "(plate, too; all stays with a FAULT)");
        String[] faulty = {"", "plate heat 1;may:1=2;habit:0;cake 2;", "plate heat 1;may:1=2;habit:0;?",
            "plate heat 4;cake 1;habit:1;habit:", "plate heat 10;", "plate heat 1;cake 3;cake 2;cake 1;may:1=1;;"};
        for (int[] stack : STACKS) {
            for (String laws : LAWS) {
                String text = text(3, stack, laws);
                GriddleTurn x = withTrays(Check.told(text));
                for (String fault : faulty) {
                    due("refused", 1, Check.tell(x, fault) <= -31 ? 1 : 0);
                }
                asNew("behind refused ones", text, x);
                due("refused", 1, Check.tell(x, faulty[1]) <= -31 ? 1 : 0);
                asNew("behind one more", text, x);
            }
        }
    }

    private static void heats() {
        edges.says(11, "Another HEAT (0 to 9): what it was.");
        for (int[] stack : STACKS) {
            for (String laws : LAWS) {
                GriddleTurn x = withTrays(Check.told(text(0, stack, laws)));
                int was = 0;
                for (int heat : new int[] {0, 9, 1, 0, 2}) {
                    due("what it was", was, x.heat(heat));
                    asNew("at another heat", text(heat, stack, laws), x);
                    was = heat;
                }
            }
        }
    }

    private static void undone() {
        edges.says(Edges.TERMS, "the latest first, 10 at most (eldest are forgotten): PANCAKES, HEAT, how much WORK there was.");
        for (int[] stack : STACKS) {
            for (String laws : LAWS) {
                GriddleTurn x = withTrays(Check.told(text(1, stack, laws)));
                x.heat(2);
                asNew("at heat 2", text(2, stack, laws), x);
                x.heat(0);
                asNew("at heat 0", text(0, stack, laws), x);
                due("undone", 1, x.undo(1));
                asNew("at heat 2 again", text(2, stack, laws), x);
                due("undone", 0, x.undo(1));
                asNew("at heat 1 again", text(1, stack, laws), x);
            }
        }
    }

    private static void images() {
        edges.says(41, "All that is in an IMAGE is as it was: 0.");
        for (int i = 0; i < LAWS.length; i++) {
            for (int j = 0; j < LAWS.length; j++) {
                String one = text(1, STACKS[0], LAWS[i]);
                String other = text(1, STACKS[(i + j) % STACKS.length], LAWS[j]);
                GriddleTurn x = withTrays(Check.told(one));
                x.image(0);
                asNew("first", one, x);
                Check.tell(x, other);
                x.image(1);
                asNew("then", other, x);
                x.heat(3);
                x.habits(3);
                due("restored", 0, x.restore(0));
                asNew("the first image", one, x);
                due("restored", 0, x.restore(1));
                asNew("the second image", other, x);
                Check.tell(x, "plate heat 1;cake 2;cake 3;cake 1;may:many=2;");
                asNew("another plate", "plate heat 1;cake 2;cake 3;cake 1;may:many=2;", x);
                due("restored", 0, x.restore(0));
                asNew("the first image again", one, x);
            }
        }
    }

    /** way() asked on a new object, of each aim alone. */
    private static void wayFirst() {
        edges.says(17, "Its i-th TURN.");
        int[][] stacks = {{-2, 1}, {3, 1, -2}, {2, -4, 1, 3}, {5, -1, 4, 2, -3}};
        for (int[] stack : stacks) {
            for (int aim = 0; aim < 3; aim++) {
                GriddleTurn asked = Check.told(text(0, stack, ""));
                int turns = asked.cheapest(aim, 1);
                int work = asked.cheapest(aim, 0);
                GriddleTurn by = Check.told(text(0, stack, ""));
                for (int i = 0; i < turns; i++) {
                    int k = Check.told(text(0, stack, "")).way(aim, i);
                    due("way(" + aim + ", " + i + ") first of all", asked.way(aim, i), k);
                    work -= by.turn(k);
                }
                due("all the work", 0, work);
                due("it is so then", 0, by.cheapest(aim, 0));
                due("not so many", -1, Check.told(text(0, stack, "")).way(aim, turns));
            }
        }
    }

    /** The laws of the heat that is now, though another one was asked of in between by another question. */
    private static void betweenHeats() {
        edges.says(11, "Another HEAT (0 to 9): what it was.");
        String laws = "may:many=2 or heat=1 and many=1 or heat=0 and up=1;habit:heat+1;";
        for (int[] stack : new int[][] {{-2, 1}, {1, -2}, {3, -1, 2}, {-3, -2, -1}}) {
            for (int aim = 0; aim < 3; aim++) {
                GriddleTurn x = Check.told(text(0, stack, laws));
                GriddleTurn y = Check.told(text(0, stack, laws));
                int turns = y.cheapest(aim, 1);
                due("turns", turns, x.cheapest(aim, 1));
                x.heat(1);
                due("at heat 1", Check.told(text(1, stack, laws)).stands(), x.stands());
                x.heat(0);
                for (int i = 0; i <= Math.max(turns, 0); i++) {
                    due("way(" + aim + ", " + i + ")", y.way(aim, i), x.way(aim, i));
                }
                x.heat(1);
                x.tidy();
                x.undo(1);
                due("way again", y.way(aim, 0), x.way(aim, 0));
                due("stands", y.stands(), x.stands());
            }
        }
    }

    private static void lawsGone() {
        edges.says(Edges.TERMS, "(without one: always)");
        GriddleTurn x = Check.told("plate heat 0;cake 1;cake 2;may:1=2;");
        due("may not", 2, x.why(1));
        Check.tell(x, "plate heat 0;cake 1;cake 2;");
        due("without one", 0, x.why(1));
        due("without one", 0, x.why(2));
        due("all", 8, x.stands());
        Check.tell(x, "plate heat 0;may:1=2;?");
        due("none of a refused one", 0, x.why(1));
        Check.tell(x, "plate heat 0;cake 1;cake 2;");
        due("none of a refused one", 0, x.why(1));
        edges.says(Edges.TERMS, "without one: 1 more than lie RIGHT from the plate on, as many as there are at most");
        Check.tell(x, "plate heat 0;cake 2;cake 1;habit:0;");
        due("habit", 0, x.habit());
        Check.tell(x, "plate heat 0;cake 2;cake 1;");
        due("without one", 1, x.habit());
        Check.tell(x, "plate heat 0;cake 2;cake 1;habit:0;cake 3");
        due("none of a refused one", 1, x.habit());
        Check.tell(x, "plate heat 0;cake 2;cake 1;");
        due("none of a refused one", 1, x.habit());
        Check.tell(x, "plate heat 0;cake 1 up;cake 2;");
        due("one lies right", 2, x.habit());
        Check.tell(x, "plate heat 0;cake 1;cake 2;");
        due("both lie right", 2, x.habit());
    }
}
