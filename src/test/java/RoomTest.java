import java.lang.management.ManagementFactory;

/**
 * All calls of a run live in one room: an object is small, and no call makes anything, as counted by
 * the machine's own counter of what a thread has made.
 */
public final class RoomTest {
    private static final Check CHECK = new Check("RoomTest");

    public static void main(String[] args) {
        com.sun.management.ThreadMXBean counter =
                (com.sun.management.ThreadMXBean) ManagementFactory.getThreadMXBean();
        long me = Thread.currentThread().getId();
        // once ahead, so that the machine has read all classes and has its own rows
        new GriddleTurn();
        calls(new GriddleTurn());
        counter.getThreadAllocatedBytes(me);

        long before = counter.getThreadAllocatedBytes(me);
        GriddleTurn x = new GriddleTurn();
        long made = counter.getThreadAllocatedBytes(me) - before;
        CHECK.due("an object is below 250,000 bytes", 1, made < 250000 ? 1 : 0);

        before = counter.getThreadAllocatedBytes(me);
        calls(x);
        calls(x);
        long more = counter.getThreadAllocatedBytes(me) - before;
        CHECK.due("no more than a handful of bytes by all calls, but " + more, 1, more < 1000 ? 1 : 0);
        CHECK.end();
    }

    private static void calls(GriddleTurn x) {
        String text = "plate heat 3;cake 4 up;cake 2;cake 5;cake 1 up;cake 3;"
                + "may:many<heat+3 or [top=1 and not up>2];habit:if right>1 then top+heat else under*up-many end;";
        text(x, "plate heat 3;cake 4;?");
        text(x, text);
        text(x, "plate heat 3;cake 4 up;cake 2;cake 5;cake 1 up;cake 3;may:many<heat+3;habit:top+heat;");
        x.numbers(0, 3, 8);
        x.numbers(1, 0, 5);
        x.write(0, 1, 2);
        x.write(1, 0, 14);
        x.image(0);
        for (int i = 0; i < 12; i++) {
            x.turn(1 + i % 5);
            x.heat(i % 10);
        }
        x.habits(20);
        x.undo(3);
        x.judge(1, 2);
        x.perform(1);
        x.breakfast(77, 40);
        for (int aim = 0; aim < 3; aim++) {
            x.cheapest(aim, 0);
            x.way(aim, 1);
            x.rows(aim, 9);
            x.hardest(aim, 1);
            x.asHard(aim, 7);
            x.chance(aim, 7, 1);
        }
        x.stands();
        x.at(123456789012345L);
        x.round(1);
        x.tidy();
        x.soon();
        for (int what = 0; what < 6; what++) {
            x.lies(what);
            x.count(what);
            x.by(2, what);
            x.cake(1, what);
        }
        x.stack(5, 2);
        x.seen(0);
        x.seenBy(0, 3);
        x.turned(0, 3);
        x.lists(1, 99);
        x.write(1, 0, 1);
        x.numbers(1, 1, 1);
        x.write(1, 0, 2);
        x.heats(1);
        x.attempt(1);
        x.forces(3);
        x.best(3);
        x.mean(7, 0);
        x.restore(0);
    }

    /** As Check.tell, but without a number made for each call. */
    private static void text(GriddleTurn x, String text) {
        for (int at = 0; at < text.length(); at += 20) {
            x.feed(Check.four(text, at), Check.four(text, at + 4), Check.four(text, at + 8),
                    Check.four(text, at + 12), Check.four(text, at + 16));
        }
        x.plate(text.length());
    }
}
