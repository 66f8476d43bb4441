import java.io.IOException;
import java.util.ArrayList;
import java.util.List;

/**
 * A refused call changes nothing, nor does one that only asks: two objects come to the same state, one is
 * asked, and then all that can be found out of the two by further calls must be alike.
 */
public final class RefusedTest {
    private static final int FAR = Integer.MAX_VALUE;
    private static final int LOW = Integer.MIN_VALUE;
    private static Edges edges;

    private interface Call {
        long on(GriddleTurn x);
    }

    private interface State {
        GriddleTurn made();
    }

    private static final State[] STATES = {RefusedTest::fresh, RefusedTest::midway, RefusedTest::full, RefusedTest::spoiled};

    public static void main(String[] args) throws IOException {
        edges = new Edges("RefusedTest");
        edges.says(Edges.TERMS, "Refused calls answer by a code and change nothing");
        thePlate();
        deeds();
        searches();
        seen();
        trays();
        edges.says(Edges.TERMS, "-11, -12 why not (1, 2)");
        byTheLaw();
        edges.says(Edges.TERMS, "-30 less the FAULT: a text.");
        faults();
        edges.says(Edges.TERMS, "-2 there is none such; -3 a number can't be; -4 too many; -5 it can't be now; "
                + "-6 a TRAY is MISSING; -7 it has no such number;");
        codes();
        edges.says(Edges.TERMS, "(Of several that which the call tells first; all these ahead of NONE.)");
        several();
        severalOfTrays();
        aheadOfNone();
        edges.says(Edges.TERMS, "nothing else being done");
        asked();
        edges.end(0, 0);
    }

    // ---- states

    private static GriddleTurn fresh() {
        return new GriddleTurn();
    }

    private static GriddleTurn midway() {
        GriddleTurn x = Check.told("plate heat 3;cake 2;cake 1 up;cake 3;may:many<heat or top=2;habit:top+heat;");
        x.turn(1);
        x.heat(5);
        x.image(0);
        x.turn(2);
        Check.fillTray(x, 0, 0, 12, 2, 0, 19, 1);
        Check.fillTray(x, 1, 2, 2, 0, 1);
        x.numbers(2, 3, 0);
        feed(x, "plate heat 4;cake 2 up;cake 1;habit:up ;");
        return x;
    }

    private static GriddleTurn full() {
        GriddleTurn x = Check.told("plate heat 8;cake 5;cake 1 up;cake 4;cake 2 up;cake 3;may:not many=2;habit:top+up*heat;");
        x.image(1);
        for (int i = 0; i < 6; i++) {
            x.turn(1 + i % 5);
            x.heat(i);
        }
        x.image(0);
        for (int tray = 0; tray < 4; tray++) {
            x.numbers(tray, tray, 40);
            x.write(tray, 0, 1 + tray);
            x.write(tray, 1, 19 - tray);
            x.write(tray, 39, 13);
        }
        feed(x, "plate heat 8;cake 1 up;" + " ".repeat(877));
        return x;
    }

    /** The latest text had a fault. */
    private static GriddleTurn spoiled() {
        GriddleTurn x = Check.told("plate heat 1;cake 2;cake 1 up;may:not many=heat;");
        x.turn(2);
        x.numbers(3, 1, 8);
        x.write(3, 7, 2);
        Check.tell(x, "plate heat 2;cake 4;");
        return x;
    }

    private static void feed(GriddleTurn x, String text) {
        for (int at = 0; at < text.length(); at += 20) {
            x.feed(Check.four(text, at), Check.four(text, at + 4), Check.four(text, at + 8),
                    Check.four(text, at + 12), Check.four(text, at + 16));
        }
    }

    // ---- all that can be found out

    private static List<Long> foundOut(GriddleTurn x) {
        List<Long> found = new ArrayList<>();
        look(x, found);
        for (int tray = 0; tray < 4; tray++) {
            for (int what = 0; what < 4; what++) {
                found.add((long) x.judge(tray, what));
            }
            found.add(x.seen(tray));
            found.add((long) x.heats(tray));
        }
        while (x.count(3) > 0) {
            found.add((long) x.undo(1));
            brief(x, found);
        }
        for (int tray = 0; tray < 4; tray++) {
            found.add((long) x.perform(tray));
            brief(x, found);
            found.add(x.write(tray, 0, 1000));
            found.add(x.write(tray, 3, 100000));
        }
        for (int i = 0; i < 2; i++) {
            found.add((long) x.restore(i));
            look(x, found);
        }
        found.add((long) x.plate(x.count(4)));
        look(x, found);
        return found;
    }

    private static void brief(GriddleTurn x, List<Long> found) {
        found.add((long) x.lies(0));
        for (int what = 0; what < 4; what++) {
            found.add((long) x.count(what));
        }
    }

    private static void look(GriddleTurn x, List<Long> found) {
        brief(x, found);
        found.add((long) x.count(4));
        found.add((long) x.count(5));
        found.add((long) x.fault(0));
        found.add((long) x.fault(1));
        found.add((long) x.habit());
        for (int i = 0; i < 6; i++) {
            found.add((long) x.cake(i, 0));
            found.add((long) x.cake(i, 1));
            found.add((long) x.why(i));
        }
        found.add((long) x.at(3));
        found.add((long) x.cheapest(1, 0));
        found.add((long) x.stands());
        found.add((long) x.tidy());
        found.add((long) x.stack(1, 2));
    }

    private static void refused(String name, long code, Call call) {
        for (int s = 0; s < STATES.length; s++) {
            refusedIn(s, name, code, call);
        }
    }

    private static void refusedIn(int state, String name, long code, Call call) {
        GriddleTurn asked = STATES[state].made();
        edges.due(name + " in state " + state, code, call.on(asked));
        alike(name + " in state " + state, asked, STATES[state].made());
    }

    private static void alike(String name, GriddleTurn asked, GriddleTurn twin) {
        List<Long> want = foundOut(twin);
        List<Long> got = foundOut(asked);
        edges.due(name + ", answers behind", want.size(), got.size());
        for (int i = 0; i < Math.min(want.size(), got.size()); i++) {
            edges.due(name + ", answer " + i + " behind", want.get(i), got.get(i));
        }
    }

    // ---- the refusals

    private static void thePlate() {
        refusedIn(2, "Promise 2: feed", -5, x -> x.feed(1, 2, 3, 4, 5));
        for (int n : new int[] {-1, LOW, 901, FAR}) {
            refused("Promise 3: plate(" + n + ")", -3, x -> x.plate(n));
        }
        refusedIn(0, "Promise 3: plate(1)", -3, x -> x.plate(1));
        refusedIn(1, "Promise 3: plate(41)", -3, x -> x.plate(41));
        refusedIn(3, "Promise 3: plate(1)", -3, x -> x.plate(1));
        for (int bad : new int[] {-1, 5, LOW, FAR}) {
            refused("Promise 4: fault(" + bad + ")", -1, x -> x.fault(bad));
            refused("Promise 5: cake(" + bad + ", 0)", -2, x -> x.cake(bad, 0));
            refused("Promise 5: cake(0, " + bad + ")", -2, x -> x.cake(0, bad));
            refused("Promise 7: by(1, " + bad + ")", -2, x -> x.by(1, bad));
        }
        for (int k : new int[] {-1, 0, 6, LOW, FAR}) {
            refused("Promise 6: why(" + k + ")", 1, x -> x.why(k));
            refused("Promise 7: by(" + k + ", 0)", -5, x -> x.by(k, 0));
        }
    }

    private static void deeds() {
        for (int k : new int[] {LOW, -1, 0, 6, FAR}) {
            refused("Promise 9: turn(" + k + ")", -11, x -> x.turn(k));
        }
        for (int n : new int[] {LOW, -1, 0, 100, FAR}) {
            refused("Promise 10: habits(" + n + ")", -3, x -> x.habits(n));
        }
        for (int n : new int[] {LOW, -1, 10, FAR}) {
            refused("Promise 11: heat(" + n + ")", -11, x -> x.heat(n));
        }
        for (int n : new int[] {LOW, -1, 0, 11, FAR}) {
            refused("Promise 12: undo(" + n + ")", -3, x -> x.undo(n));
        }
        refusedIn(0, "Promise 12: undo(1)", -3, x -> x.undo(1));
        refusedIn(1, "Promise 12: undo(4)", -3, x -> x.undo(4));
        refusedIn(3, "Promise 12: undo(2)", -3, x -> x.undo(2));
        for (int bad : new int[] {LOW, -1, 4, FAR}) {
            refused("Promise 13: judge(" + bad + ", 0)", -2, x -> x.judge(bad, 0));
            refused("Promise 13: judge(0, " + bad + ")", -2, x -> x.judge(0, bad));
            refused("Promise 14: perform(" + bad + ")", -2, x -> x.perform(bad));
        }
        refusedIn(0, "Promise 13: judge(0, 0)", -6, x -> x.judge(0, 0));
        refusedIn(1, "Promise 14: perform(3)", -6, x -> x.perform(3));
        refusedIn(3, "Promise 14: perform(0)", -6, x -> x.perform(0));
        for (int n : new int[] {LOW, -1, 0, 41, FAR}) {
            refused("Promise 15: breakfast(5, " + n + ")", -3, x -> x.breakfast(5, n));
        }
    }

    private static void searches() {
        for (int aim : new int[] {LOW, -1, 3, FAR}) {
            refused("Promise 16: cheapest(" + aim + ", 0)", -2, x -> x.cheapest(aim, 0));
            refused("Promise 17: way(" + aim + ", 0)", -2, x -> x.way(aim, 0));
            refused("Promise 18: rows(" + aim + ", 1)", -2, x -> x.rows(aim, 1));
            refused("Promise 19: hardest(" + aim + ", 0)", -2, x -> x.hardest(aim, 0));
            refused("Promise 20: asHard(" + aim + ", 0)", -2, x -> x.asHard(aim, 0));
            refused("Promise 35: chance(" + aim + ", 1, 0)", -2, x -> x.chance(aim, 1, 0));
        }
        for (int bad : new int[] {LOW, -1, 10, FAR}) {
            refused("Promise 16: cheapest(0, " + bad + ")", -2, x -> x.cheapest(0, bad));
            refused("Promise 18: rows(0, " + bad + ")", -3, x -> x.rows(0, bad));
            refused("Promise 19: hardest(0, " + bad + ")", -2, x -> x.hardest(0, bad));
            refused("Promise 23: round(" + bad + ")", -2, x -> x.round(bad));
            refused("Promise 26: lies(" + bad + ")", -2, x -> x.lies(bad));
            refused("Promise 27: stack(0, " + bad + ")", -2, x -> x.stack(0, bad));
            refused("Promise 33: forces(" + bad + ")", -2, x -> x.forces(bad));
            refused("Promise 34: best(" + bad + ")", -2, x -> x.best(bad));
            refused("Promise 35: chance(0, " + bad + ", 0)", -3, x -> x.chance(0, bad, 0));
            refused("Promise 35: chance(0, 1, " + bad + ")", -2, x -> x.chance(0, 1, bad));
            refused("Promise 36: mean(" + bad + ", 0)", -3, x -> x.mean(bad, 0));
            refused("Promise 36: mean(1, " + bad + ")", -2, x -> x.mean(1, bad));
            refused("Promise 42: count(" + bad + ")", -1, x -> x.count(bad));
        }
        for (int below : new int[] {LOW, -1}) {
            refused("Promise 17: way(0, " + below + ")", -3, x -> x.way(0, below));
            refused("Promise 20: asHard(0, " + below + ")", -3, x -> x.asHard(0, below));
            refused("Promise 22: at(" + below + ")", -3, x -> x.at(below));
        }
        refused("Promise 22: at(far)", -3, x -> x.at(1000000000000001L));
        for (int number : new int[] {LOW, -1, 3840, FAR}) {
            refused("Promise 27: stack(" + number + ", 2)", -3, x -> x.stack(number, 2));
        }
    }

    private static void sizes(int state, int tray, int code) {
        String name = " of tray " + tray;
        refusedIn(state, "Promise 28: seen" + name, code, x -> x.seen(tray));
        refusedIn(state, "Promise 29: seenBy" + name, code, x -> x.seenBy(tray, 0));
        refusedIn(state, "Promise 30: turned" + name, code, x -> x.turned(tray, 0));
        refusedIn(state, "Promise 31: heats" + name, code, x -> x.heats(tray));
        refusedIn(state, "Promise 32: attempt" + name, code, x -> x.attempt(tray));
    }

    private static void seen() {
        for (int state = 0; state < STATES.length; state++) {
            sizes(state, -1, -2);
            sizes(state, 4, -2);
            sizes(state, LOW, -2);
            sizes(state, FAR, -2);
        }
        sizes(0, 0, -6);
        sizes(1, 3, -6);
        sizes(3, 0, -6);
        sizes(1, 2, -4);
        sizes(2, 0, -4);
        sizes(1, 0, -3);
        refusedIn(1, "Promise 29: seenBy(1, -1)", -3, x -> x.seenBy(1, -1));
        refusedIn(1, "Promise 30: turned(1, -1)", -3, x -> x.turned(1, -1));
        refusedIn(1, "Promise 30: turned(1, 3)", -7, x -> x.turned(1, 3));
        refusedIn(1, "Promise 31: heats(1)", -3, x -> x.heats(1));
        refusedIn(1, "Promise 32: attempt(1)", -3, x -> x.attempt(1));
        refusedIn(3, "Promise 30: turned(3, 8)", -7, x -> x.turned(3, 8));
    }

    private static void trays() {
        for (int bad : new int[] {LOW, -1, 4, FAR}) {
            refused("Promise 37: numbers(" + bad + ", 0, 1)", -2, x -> x.numbers(bad, 0, 1));
            refused("Promise 37: numbers(0, " + bad + ", 1)", -2, x -> x.numbers(0, bad, 1));
            refused("Promise 38: write(" + bad + ", 0, 1)", -2, x -> x.write(bad, 0, 1));
            refused("Promise 39: lists(" + bad + ", 0)", -2, x -> x.lists(bad, 0));
            refused("Promise 40: image(" + bad + ")", -2, x -> x.image(bad));
            refused("Promise 41: restore(" + bad + ")", -2, x -> x.restore(bad));
        }
        for (int n : new int[] {LOW, -1, 41, FAR}) {
            for (int tray = 0; tray < 4; tray++) {
                int which = tray;
                refused("Promise 37: numbers(" + tray + ", 0, " + n + ")", -3, x -> x.numbers(which, 0, n));
            }
        }
        refusedIn(0, "Promise 38: write(3, 0, 1)", -6, x -> x.write(3, 0, 1));
        refusedIn(1, "Promise 38: write(3, 0, 1)", -6, x -> x.write(3, 0, 1));
        refusedIn(0, "Promise 39: lists(3, 0)", -6, x -> x.lists(3, 0));
        refusedIn(1, "Promise 39: lists(3, 0)", -6, x -> x.lists(3, 0));
        for (int i : new int[] {LOW, -1, 40, FAR}) {
            refusedIn(1, "Promise 38: write(0, " + i + ", 7)", -7, x -> x.write(0, i, 7));
            refusedIn(2, "Promise 38: write(3, " + i + ", 7)", -7, x -> x.write(3, i, 7));
        }
        refusedIn(1, "Promise 38: write(0, 5, 7)", -7, x -> x.write(0, 5, 7));
        refusedIn(1, "Promise 38: write(2, 0, 7)", -7, x -> x.write(2, 0, 7));
        for (int number : new int[] {LOW, -1, 3840, FAR}) {
            refusedIn(1, "Promise 39: lists(0, " + number + ")", -3, x -> x.lists(0, number));
            refusedIn(2, "Promise 39: lists(0, " + number + ")", -3, x -> x.lists(0, number));
        }
        refusedIn(1, "Promise 39: lists(0, 48)", -3, x -> x.lists(0, 48));
        refusedIn(0, "Promise 41: restore(0)", -5, x -> x.restore(0));
        refusedIn(0, "Promise 41: restore(1)", -5, x -> x.restore(1));
        refusedIn(1, "Promise 41: restore(1)", -5, x -> x.restore(1));
        refusedIn(3, "Promise 41: restore(0)", -5, x -> x.restore(0));
    }

    /** Each code once, by itself. */
    private static void codes() {
        refusedIn(1, "Promise 5: cake(3, 0)", -2, x -> x.cake(3, 0));
        refusedIn(1, "Promise 10: habits(100)", -3, x -> x.habits(100));
        refusedIn(2, "Promise 28: seen(0)", -4, x -> x.seen(0));
        refusedIn(2, "Promise 2: feed", -5, x -> x.feed(0, 0, 0, 0, 0));
        refusedIn(1, "Promise 13: judge(3, 0)", -6, x -> x.judge(3, 0));
        refusedIn(1, "Promise 38: write(2, 0, 0)", -7, x -> x.write(2, 0, 0));
    }

    /** Two and more reasons at once, in calls without a tray. */
    private static void several() {
        for (int bad : new int[] {LOW, -1, 5, FAR}) {
            refused("Promise 5: neither cake nor what", -2, x -> x.cake(bad, bad));
            refused("Promise 7: what ahead of it can't be", -2, x -> x.by(0, bad));
            refused("Promise 7: what ahead of it can't be", -2, x -> x.by(bad, bad));
            refused("Promise 16: neither aim nor what", -2, x -> x.cheapest(bad, bad));
            refused("Promise 17: the aim ahead of i", -2, x -> x.way(bad, -1));
            refused("Promise 18: the aim ahead of n", -2, x -> x.rows(bad, -1));
            refused("Promise 18: the aim ahead of n", -2, x -> x.rows(bad, 10));
            refused("Promise 19: neither aim nor what", -2, x -> x.hardest(bad, bad));
            refused("Promise 20: the aim ahead of n", -2, x -> x.asHard(bad, -1));
            refused("Promise 27: what ahead of the number", -2, x -> x.stack(-1, bad));
            refused("Promise 27: what ahead of the number", -2, x -> x.stack(3840, bad));
            refused("Promise 35: the aim ahead of n", -2, x -> x.chance(bad, 8, 0));
            refused("Promise 35: what ahead of n", -2, x -> x.chance(0, 8, bad));
            refused("Promise 35: both ahead of n", -2, x -> x.chance(bad, -1, bad));
            refused("Promise 36: what ahead of n", -2, x -> x.mean(8, bad));
            refused("Promise 36: what ahead of n", -2, x -> x.mean(-1, bad));
        }
        // no such k ahead of the law by which none may be
        refusedIn(3, "Promise 9: turn(0)", -11, x -> x.turn(0));
        refusedIn(3, "Promise 9: turn(3)", -11, x -> x.turn(3));
        refusedIn(3, "Promise 6: why(3)", 1, x -> x.why(3));
    }

    private static void severalOfTrays() {
        for (int bad : new int[] {LOW, -1, 4, FAR}) {
            refused("Promise 13: neither tray nor what", -2, x -> x.judge(bad, bad));
            refusedIn(0, "Promise 13: what ahead of MISSING", -2, x -> x.judge(0, bad));
            refused("Promise 29: the tray ahead of i", -2, x -> x.seenBy(bad, -1));
            refused("Promise 30: the tray ahead of i", -2, x -> x.turned(bad, -1));
            refused("Promise 37: the tray ahead of n", -2, x -> x.numbers(bad, 0, -1));
            refused("Promise 37: the sort ahead of n", -2, x -> x.numbers(0, bad, 41));
            refused("Promise 38: the tray ahead of the place", -2, x -> x.write(bad, -1, 0));
            refused("Promise 39: the tray ahead of the number", -2, x -> x.lists(bad, -1));
        }
        for (int i : new int[] {LOW, -1, 8, 40, FAR}) {
            refusedIn(0, "Promise 29: MISSING ahead of i", -6, x -> x.seenBy(0, i));
            refusedIn(0, "Promise 30: MISSING ahead of i", -6, x -> x.turned(0, i));
            refusedIn(0, "Promise 38: MISSING ahead of the place", -6, x -> x.write(0, i, 0));
            refusedIn(0, "Promise 39: MISSING ahead of the number", -6, x -> x.lists(0, i == 8 ? 2 : i));
            refusedIn(1, "Promise 29: no numbers ahead of i", -4, x -> x.seenBy(2, i));
            refusedIn(1, "Promise 30: no numbers ahead of i", -4, x -> x.turned(2, i));
            refusedIn(2, "Promise 29: 40 numbers ahead of i", -4, x -> x.seenBy(1, i));
            refusedIn(2, "Promise 30: 40 numbers ahead of i", -4, x -> x.turned(1, i));
            // 12 and 19 are no sizes
            refusedIn(1, "Promise 30: no size ahead of no such turn", -3, x -> x.turned(0, i));
            refusedIn(1, "Promise 29: no size ahead of NONE", -3, x -> x.seenBy(0, i));
        }
        // tray 1 of 40 numbers, one of them 18
        refusedIn(2, "Promise 28: too many ahead of no size", -4, x -> x.seen(1));
        refusedIn(2, "Promise 31: too many ahead of no size", -4, x -> x.heats(1));
        refusedIn(2, "Promise 32: too many ahead of no size", -4, x -> x.attempt(1));
    }

    /** Where without the refusal there would be none. */
    private static void aheadOfNone() {
        String still = "plate heat 0;cake 2;cake 1 up;may:1=2;";
        for (int aim = 0; aim < 3; aim++) {
            edges.due("Promise 16: it can't be", -1, Check.told(still).cheapest(aim, 0));
            edges.due("Promise 16: what", -2, Check.told(still).cheapest(aim, 2));
            edges.due("Promise 17: it can't be", -1, Check.told(still).way(aim, 0));
            edges.due("Promise 17: i", -3, Check.told(still).way(aim, -1));
        }
        GriddleTurn x = Check.told(still);
        edges.due("Promise 27: it can't be", -1, x.stack(7, 2));
        edges.due("Promise 27: the number", -3, x.stack(8, 2));
        edges.due("Promise 33: never", -1, x.forces(1));
        edges.due("Promise 33: no such size", -2, x.forces(3));
        edges.due("Promise 34: it doesn't", -1, x.best(1));
        edges.due("Promise 34: no such size", -2, x.best(0));
        x.numbers(0, 0, 2);
        edges.due("Promise 29: there are none", -1, x.seenBy(0, 0));
        edges.due("Promise 29: not so many", -1, x.seenBy(0, 2));
        edges.due("Promise 29: i", -3, x.seenBy(0, -1));
        Check.fillTray(x, 0, 0, 1);
        edges.due("Promise 32: there are none", -1, x.attempt(0));
        Check.fillTray(x, 0, 0, 1, 0);
        edges.due("Promise 32: no size", -3, x.attempt(0));
        Check.fillTray(x, 0, 0, 0, 0);
        edges.due("Promise 13: each can be", -1, x.judge(0, 0));
        edges.due("Promise 13: what", -2, x.judge(0, 4));
    }

    private static void byTheLaw() {
        refusedIn(2, "Promise 9: turn(2)", -12, x -> x.turn(2));
        refusedIn(2, "Promise 7: by(2, 0)", -5, x -> x.by(2, 0));
        refusedIn(3, "Promise 9: turn(1)", -12, x -> x.turn(1));
        refusedIn(3, "Promise 7: by(1, 3)", -5, x -> x.by(1, 3));
        refusedIn(3, "Promise 9: turn(3)", -11, x -> x.turn(3));
    }

    /** But for the fault that is told of it, and the tape, which is empty then: both objects read a text. */
    private static void faults() {
        String[] texts = {"", "?", "plate heat 10;", "plate heat 7;cake 3;cake 2;",
            "plate heat 7;cake 1;cake 2;cake 3;may:1=2;habit:0;plate", "plate heat 7;habit:((((((((1;"};
        int[] codes = {-32, -31, -33, -33, -32, -34};
        for (int s = 0; s < STATES.length; s++) {
            for (int i = 0; i < texts.length; i++) {
                GriddleTurn asked = STATES[s].made();
                GriddleTurn twin = STATES[s].made();
                asked.plate(0);
                twin.plate(0);
                edges.due("Promise 3: '" + texts[i] + "' in state " + s, codes[i], Check.tell(asked, texts[i]));
                edges.due("Promise 3: '" + texts[i] + "' leaves an empty tape", 0, asked.count(4));
                asked.plate(0);
                twin.plate(0);
                alike("Promise 3: '" + texts[i] + "' in state " + s, asked, twin);
            }
        }
    }

    /** Calls that only ask, all of them: nothing comes of it. */
    private static void asked() {
        for (int s = 0; s < STATES.length; s++) {
            GriddleTurn asked = STATES[s].made();
            for (int i = 0; i < 3; i++) {
                askAims(asked, i);
                askTrays(asked, i);
                asked.fault(i);
                asked.count(i);
                asked.cake(i, 0);
                asked.why(i);
                asked.by(i, i);
                asked.lies(i + 3);
                asked.round(i);
                asked.mean(i, 0);
                asked.forces(i);
                asked.best(i);
                asked.stack(i, i);
                asked.at(i * 1000L);
            }
            asked.habit();
            asked.stands();
            asked.tidy();
            asked.soon();
            alike("asking in state " + s, asked, STATES[s].made());
        }
    }

    private static void askAims(GriddleTurn x, int aim) {
        x.cheapest(aim, 0);
        x.way(aim, 0);
        x.way(aim, 3);
        x.rows(aim, 9);
        x.hardest(aim, 1);
        x.asHard(aim, 3);
        x.chance(aim, 7, 0);
    }

    private static void askTrays(GriddleTurn x, int tray) {
        x.judge(tray, 0);
        x.judge(tray, 2);
        x.seen(tray);
        x.seenBy(tray, 1);
        x.turned(tray, 1);
        x.heats(tray);
        x.attempt(tray);
    }
}
