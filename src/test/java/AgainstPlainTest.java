import java.util.Random;

/** Drawn runs of calls (always the same ones): the class and the plain telling must answer alike. */
public final class AgainstPlainTest {
    private static final Check CHECK = new Check("AgainstPlainTest");

    private final Random random;
    private final GriddleTurn x = new GriddleTurn();
    private final Plain y = new Plain();
    private final StringBuilder log = new StringBuilder();

    private AgainstPlainTest(long seed) {
        random = new Random(seed);
    }

    public static void main(String[] args) {
        int runs = args.length > 0 ? Integer.parseInt(args[0]) : 150;
        int from = args.length > 1 ? Integer.parseInt(args[1]) : 0;
        for (int i = from; i < from + runs && CHECK.isFine(); i++) {
            new AgainstPlainTest(i).run(i);
        }
        CHECK.end();
    }

    private int below(int n) {
        return random.nextInt(n);
    }

    private void same(String call, long want, long got) {
        log.append(call).append(" = ").append(got).append('\n');
        CHECK.due(call, want, got);
    }

    private void run(int number) {
        int left = 500;
        if (below(4) != 0) {
            left -= tell();
        }
        while (left > 0 && CHECK.isFine()) {
            left -= below(12) == 0 ? tell() : below(9) == 0 ? fillTray() : call();
        }
        if (!CHECK.isFine()) {
            System.out.println("run " + number + ":\n" + log);
        }
    }

    // ---- texts

    private int tell() {
        String text = text();
        int calls = 1;
        log.append(text).append('\n');
        for (int at = 0; at < text.length(); at += 20) {
            int[] f = new int[5];
            for (int i = 0; i < 5; i++) {
                f[i] = Check.four(text, at + 4 * i);
            }
            same("feed", y.feed(f[0], f[1], f[2], f[3], f[4]), x.feed(f[0], f[1], f[2], f[3], f[4]));
            calls++;
        }
        int n = below(30) == 0 ? below(text.length() + 30) - 5 : text.length();
        same("plate(" + n + ")", y.plate(n), x.plate(n));
        same("fault(0)", y.fault(0), x.fault(0));
        same("fault(1)", y.fault(1), x.fault(1));
        return calls;
    }

    private String text() {
        StringBuilder text = new StringBuilder("plate heat " + below(10) + ";");
        int cakes = below(8) == 0 ? 5 : below(5);
        int[] sizes = new int[cakes];
        for (int i = 0; i < cakes; i++) {
            int at = below(i + 1);
            sizes[i] = sizes[at];
            sizes[at] = i + 1;
        }
        for (int i = 0; i < cakes; i++) {
            law(text, 6);
            text.append("cake ").append(sizes[i]).append(below(2) == 0 ? " up" : "").append(';');
        }
        law(text, 2);
        law(text, 2);
        if (below(5) == 0) {
            spoil(text);
        }
        return text.length() > 880 ? text() : text.toString();
    }

    private void law(StringBuilder text, int seldom) {
        if (below(seldom) != 0) {
            return;
        }
        StringBuilder law = new StringBuilder();
        boolean may = below(2) == 0;
        if (may) {
            truth(law, 1 + below(3));
        } else {
            sum(law, 1 + below(3), false);
        }
        text.append(may ? "may:" : "habit : ").append(law).append(';');
    }

    private void truth(StringBuilder to, int size) {
        int sort = size <= 0 ? 3 : below(6);
        if (sort == 0) {
            truth(to, size - 1);
            to.append(below(2) == 0 ? " or " : " and ");
            truth(to, size - 1);
        } else if (sort == 1) {
            to.append("not ");
            unit(to, size - 1);
        } else {
            unit(to, size);
        }
    }

    private void unit(StringBuilder to, int size) {
        if (size > 0 && below(4) == 0) {
            to.append('[');
            truth(to, size - 1);
            to.append(']');
        } else {
            sum(to, size - 1, true);
            to.append(" =<>".charAt(1 + below(3)));
            sum(to, size - 1, true);
        }
    }

    private void sum(StringBuilder to, int size, boolean may) {
        int sort = size <= 0 ? 9 : below(8);
        if (sort <= 3) {
            sum(to, size - 1, may);
            to.append("+-*-".charAt(sort));
            sum(to, size - 1, may);
        } else if (sort == 4) {
            to.append('(');
            sum(to, size - 1, may);
            to.append(')');
        } else if (sort == 5) {
            to.append("if ");
            StringBuilder in = new StringBuilder();
            truth(in, size - 1);
            to.append(may ? in : in.toString().replace("many", "right")).append(" then ");
            sum(to, size - 1, may);
            to.append(" else ");
            sum(to, size - 1, may);
            to.append(" end");
        } else {
            String[] atoms = {"top", "under", "up", "heat", may ? "many" : "right", "heat", "" + below(6), "" + below(1000)};
            to.append(below(9) == 0 ? " " : "").append(atoms[below(atoms.length)]);
        }
    }

    private void spoil(StringBuilder text) {
        String[] tokens = {"plate", "heat", "cake", "up", "may", "habit", "not ", "or ", "and", "if ", " then ", "else",
            "end", "top", "under", "many", "right", ";", ":", "+", "-", "*", "(", ")", "[", "]", "=", "<", ">", "1", "7",
            "12", "999", "1000", "x", "?", "\n", " ", "A", "not not not ", "(((", "[[["};
        for (int i = below(3); i >= 0; i--) {
            int at = below(text.length() + 1);
            int end = Math.min(text.length(), at + below(3) * below(4));
            text.replace(at, end, below(4) == 0 ? "" : tokens[below(tokens.length)]);
        }
    }

    // ---- calls

    private int mostly(int n) {
        return below(25) == 0 ? below(n + 6) - 3 : below(n);
    }

    private int fillTray() {
        int tray = mostly(4);
        int sort = mostly(4);
        int n = below(3) == 0 ? mostly(41) : below(6);
        same("numbers(" + tray + ", " + sort + ", " + n + ")", y.numbers(tray, sort, n), x.numbers(tray, sort, n));
        int kind = below(3);
        int most = x.count(0);
        for (int i = 0; i < n; i++) {
            if (below(6) == 0) {
                continue;
            }
            long v = kind == 0 ? below(most + 1) : kind == 1 ? below(20) : 1 + below(most);
            v = below(40) == 0 ? random.nextLong() >> below(64) : v;
            same("write(" + tray + ", " + i + ", " + v + ")", y.write(tray, i, v), x.write(tray, i, v));
        }
        return n + 1;
    }

    private int call() {
        int most = y.count(0);
        int stacks = y.lies(1);
        boolean dear = most < 5 || below(12) == 0;
        int a = mostly(most + 1);
        int w = mostly(4);
        int tray = mostly(4);
        int aim = mostly(3);
        int i = mostly(6);
        int number = mostly(stacks);
        switch (below(dear ? 44 : 26)) {
            case 0: same("cake", y.cake(a, w / 2), x.cake(a, w / 2)); break;
            case 1: same("why " + a, y.why(a), x.why(a)); break;
            case 2: same("by " + a + " " + w, y.by(a, w), x.by(a, w)); break;
            case 3: same("habit", y.habit(), x.habit()); break;
            case 4: same("turn " + a, y.turn(a), x.turn(a)); break;
            case 5: same("habits " + i, y.habits(i), x.habits(i)); break;
            case 6: int h = mostly(10); same("heat " + h, y.heat(h), x.heat(h)); break;
            case 7: same("undo " + i, y.undo(i), x.undo(i)); break;
            case 8: same("judge " + tray + " " + w, y.judge(tray, w), x.judge(tray, w)); break;
            case 9: same("perform " + tray, y.perform(tray), x.perform(tray)); break;
            case 10: int seed = random.nextInt(); int times = mostly(41);
                same("breakfast " + seed + " " + times, y.breakfast(seed, times), x.breakfast(seed, times)); break;
            case 11: same("round " + w / 2, y.round(w / 2), x.round(w / 2)); break;
            case 12: same("soon", y.soon(), x.soon()); break;
            case 13: int l = mostly(6); same("lies " + l, y.lies(l), x.lies(l)); break;
            case 14: same("stack " + number, y.stack(number, w / 2), x.stack(number, w / 2)); break;
            case 15: same("heats " + tray, y.heats(tray), x.heats(tray)); break;
            case 16: same("attempt " + tray, y.attempt(tray), x.attempt(tray)); break;
            case 17: same("lists " + tray + " " + number, y.lists(tray, number), x.lists(tray, number)); break;
            case 18: same("image " + w / 2, y.image(w / 2), x.image(w / 2)); break;
            case 19: same("restore " + w / 2, y.restore(w / 2), x.restore(w / 2)); break;
            case 20: case 21: int c = mostly(6); same("count " + c, y.count(c), x.count(c)); break;
            case 22: long at = below(3) == 0 ? mostly(40) : random.nextLong() >> 13 + below(50);
                same("at " + at, y.at(at), x.at(at)); break;
            case 23: case 24: case 25: seen(tray, i); break;
            case 26: same("cheapest " + aim, y.cheapest(aim, w / 2), x.cheapest(aim, w / 2)); break;
            case 27: case 28: same("way " + aim + " " + i, y.way(aim, i), x.way(aim, i)); break;
            case 29: int n = mostly(10); same("rows " + aim + " " + n, y.rows(aim, n), x.rows(aim, n)); break;
            case 30: case 31: same("hardest " + aim + " " + w, y.hardest(aim, w), x.hardest(aim, w)); break;
            case 32: int hard = mostly(30); same("asHard " + aim + " " + hard, y.asHard(aim, hard), x.asHard(aim, hard)); break;
            case 33: same("stands", y.stands(), x.stands()); break;
            case 34: same("tidy", y.tidy(), x.tidy()); break;
            case 35: same("stack 2 " + number, y.stack(number, 2), x.stack(number, 2)); break;
            case 36: case 37: case 38: same("forces " + a, y.forces(a), x.forces(a));
                same("best " + a, y.best(a), x.best(a)); break;
            case 39: case 40: int d = mostly(8);
                same("chance " + aim + " " + d, y.chance(aim, d, w / 2), x.chance(aim, d, w / 2)); break;
            case 41: case 42: int m = mostly(8); same("mean " + m, y.mean(m, w / 2), x.mean(m, w / 2)); break;
            default: same("hardest " + aim, y.hardest(aim, 0), x.hardest(aim, 0)); break;
        }
        return 1;
    }

    private void seen(int tray, int i) {
        same("seen " + tray, y.seen(tray), x.seen(tray));
        same("seenBy " + tray + " " + i, y.seenBy(tray, i), x.seenBy(tray, i));
        same("turned " + tray + " " + i, y.turned(tray, i), x.turned(tray, i));
    }
}
