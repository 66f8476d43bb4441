import java.util.ArrayDeque;
import java.util.ArrayList;
import java.util.Arrays;
import java.util.HashMap;
import java.util.HashSet;
import java.util.LinkedHashSet;
import java.util.List;
import java.util.Map;
import java.util.PriorityQueue;
import java.util.Set;

/**
 * The document once more, told as plainly as can be and without a care for speed, to hold the class
 * against: a stack is a list of sizes from the top on, below 0 if it lies burnt side up.
 */
final class Plain {
    private final List<Integer> tape = new ArrayList<>();
    private int fault;
    private int faultPlace = -1;

    private PlainText text = PlainText.NONE;
    private List<Integer> lying = List.of(1);
    private int heat;
    private int work;
    private List<Object[]> past = new ArrayList<>();
    private final long[][] trays = new long[4][];
    private final int[] sorts = new int[4];
    private final Object[][] images = new Object[2][];
    private List<List<Integer>> all;
    private Map<List<Integer>, Integer> numbers;

    Plain() {
        enumerate();
    }

    private int n() {
        return lying.size();
    }

    // ---- stacks

    private void enumerate() {
        all = new ArrayList<>();
        lay(new ArrayList<>(), all, n());
        all.sort((a, b) -> {
            for (int i = 0; i < a.size(); i++) {
                if (Math.abs(a.get(i)) != Math.abs(b.get(i))) {
                    return Math.abs(a.get(i)) - Math.abs(b.get(i));
                }
            }
            for (int i = 0; i < a.size(); i++) {
                if (!a.get(i).equals(b.get(i))) {
                    return b.get(i) - a.get(i);
                }
            }
            return 0;
        });
        numbers = new HashMap<>();
        for (int i = 0; i < all.size(); i++) {
            numbers.put(all.get(i), i);
        }
    }

    private static void lay(List<Integer> begun, List<List<Integer>> into, int n) {
        if (begun.size() == n) {
            into.add(List.copyOf(begun));
            return;
        }
        for (int size = 1; size <= n; size++) {
            if (!begun.contains(size) && !begun.contains(-size)) {
                for (int side = -1; side <= 1; side += 2) {
                    begun.add(side * size);
                    lay(begun, into, n);
                    begun.remove(begun.size() - 1);
                }
            }
        }
    }

    private static List<Integer> flip(List<Integer> stack, int k) {
        List<Integer> then = new ArrayList<>();
        for (int i = k - 1; i >= 0; i--) {
            then.add(-stack.get(i));
        }
        then.addAll(stack.subList(k, stack.size()));
        return then;
    }

    private static int right(List<Integer> stack) {
        int right = 0;
        for (int i = stack.size() - 1; i >= 0 && stack.get(i) == i + 1; i--) {
            right++;
        }
        return right;
    }

    private static int ups(List<Integer> stack) {
        int ups = 0;
        for (int cake : stack) {
            ups += cake < 0 ? 1 : 0;
        }
        return ups;
    }

    private static int top(List<Integer> stack) {
        return Math.abs(stack.get(0));
    }

    private static int workOf(List<Integer> stack, int k) {
        int sum = 0;
        for (int cake : stack.subList(0, k)) {
            sum += Math.abs(cake);
        }
        return sum;
    }

    private boolean may(List<Integer> stack, int k, int heat) {
        if (k < 1 || k > stack.size()) {
            return false;
        }
        int under = k < stack.size() ? Math.abs(stack.get(k)) : 0;
        return text.may == null || text.truth(text.may, top(stack), under, ups(stack), heat, k);
    }

    private int habitK(List<Integer> stack, int heat) {
        int k;
        if (text.habit == null) {
            k = Math.min(stack.size(), right(stack) + 1);
        } else {
            int lowest = Math.abs(stack.get(stack.size() - 1));
            int v = text.sum(text.habit, top(stack), lowest, ups(stack), heat, right(stack));
            int by = stack.size() + 1;
            k = (v % by + by) % by;
        }
        return may(stack, k, heat) ? k : 0;
    }

    private List<Integer> habitOn(List<Integer> stack, int heat) {
        return flip(stack, habitK(stack, heat));
    }

    private static boolean aimed(List<Integer> stack, int aim) {
        boolean order = true;
        for (int i = 0; i < stack.size(); i++) {
            order &= Math.abs(stack.get(i)) == i + 1;
        }
        boolean down = ups(stack) == 0;
        return aim == 0 ? order && down : aim == 1 ? order : down;
    }

    // ---- the plate

    int feed(int a, int b, int c, int d, int e) {
        if (tape.size() > 880) {
            return -5;
        }
        for (int v : new int[] {a, b, c, d, e}) {
            tape.add(v >> 24 & 255);
            tape.add(v >> 16 & 255);
            tape.add(v >> 8 & 255);
            tape.add(v & 255);
        }
        return tape.size();
    }

    int plate(int n) {
        if (n < 0 || n > tape.size()) {
            return -3;
        }
        StringBuilder told = new StringBuilder();
        for (int i = 0; i < n; i++) {
            told.append((char) (int) tape.get(i));
        }
        tape.clear();
        PlainText read = new PlainText(told.toString());
        fault = read.fault;
        faultPlace = read.fault == 0 ? -1 : read.place;
        if (fault != 0) {
            return -30 - fault;
        }
        text = read;
        lying = List.copyOf(read.cakes);
        heat = read.heat;
        work = 0;
        past.clear();
        enumerate();
        return text.lines;
    }

    int fault(int what) {
        return what == 0 ? fault : what == 1 ? faultPlace : -1;
    }

    int cake(int i, int what) {
        if (i < 0 || i >= n() || what < 0 || what > 1) {
            return -2;
        }
        return what == 0 ? Math.abs(lying.get(i)) : lying.get(i) < 0 ? 1 : 0;
    }

    int why(int k) {
        return k < 1 || k > n() ? 1 : may(lying, k, heat) ? 0 : 2;
    }

    int by(int k, int what) {
        if (what < 0 || what > 3) {
            return -2;
        }
        if (why(k) != 0) {
            return -5;
        }
        List<Integer> then = flip(lying, k);
        return new int[] {numbers.get(then), right(then), top(then), workOf(lying, k)}[what];
    }

    int habit() {
        return habitK(lying, heat);
    }

    // ---- deeds

    private Object[] state() {
        return new Object[] {lying, heat, work};
    }

    @SuppressWarnings("unchecked")
    private void bring(Object[] state) {
        lying = (List<Integer>) state[0];
        heat = (int) state[1];
        work = (int) state[2];
    }

    private void keep(Object[] state) {
        past.add(state);
        if (past.size() > 10) {
            past.remove(0);
        }
    }

    private int whyDeed(long v) {
        return v == 0 || v >= 10 && v <= 19 ? 0 : v >= 1 && v <= 9 ? why((int) v) : 1;
    }

    private boolean deed(long v) {
        if (whyDeed(v) != 0) {
            return false;
        }
        if (v >= 10) {
            heat = (int) v - 10;
        } else {
            int k = v == 0 ? habit() : (int) v;
            work += workOf(lying, k);
            lying = flip(lying, k);
        }
        return true;
    }

    int turn(int k) {
        if (why(k) != 0) {
            return -10 - why(k);
        }
        keep(state());
        int more = workOf(lying, k);
        deed(k);
        return more;
    }

    int habits(int n) {
        if (n < 1 || n > 99) {
            return -3;
        }
        keep(state());
        for (int i = 0; i < n; i++) {
            deed(0);
        }
        return right(lying);
    }

    int heat(int n) {
        if (n < 0 || n > 9) {
            return -11;
        }
        keep(state());
        int was = heat;
        heat = n;
        return was;
    }

    int undo(int n) {
        if (n < 1 || n > 10 || n > past.size()) {
            return -3;
        }
        for (int i = 0; i < n; i++) {
            bring(past.remove(past.size() - 1));
        }
        return past.size();
    }

    int judge(int tray, int what) {
        if (tray < 0 || tray > 3 || what < 0 || what > 3) {
            return -2;
        }
        if (trays[tray] == null) {
            return -6;
        }
        Object[] was = state();
        int first = -1;
        int reason = 0;
        for (int i = 0; i < trays[tray].length; i++) {
            if (!deed(trays[tray][i])) {
                first = i;
                reason = whyDeed(trays[tray][i]);
                break;
            }
        }
        int[] answers = {first, reason, numbers.get(lying), work - (int) was[2]};
        bring(was);
        return answers[what];
    }

    int perform(int tray) {
        if (tray < 0 || tray > 3) {
            return -2;
        }
        if (trays[tray] == null) {
            return -6;
        }
        Object[] was = state();
        int done = 0;
        for (long v : trays[tray]) {
            if (!deed(v)) {
                break;
            }
            done++;
        }
        if (done > 0) {
            keep(was);
        }
        return done;
    }

    int breakfast(int seed, int times) {
        if (times < 1 || times > 40) {
            return -3;
        }
        Object[] was = state();
        int[] x = {seed};
        int done = 0;
        for (int i = 0; i < times; i++) {
            int lot = draw(x) % 4;
            long v = lot == 0 ? 0 : lot == 3 ? 10 + draw(x) % 10 : draw(x) % 6;
            done += deed(v) ? 1 : 0;
        }
        if (done > 0) {
            keep(was);
        }
        return done;
    }

    private static int draw(int[] x) {
        x[0] = 1103515245 * x[0] + 12345;
        return x[0] >>> 16;
    }

    // ---- cheapest

    private record Way(List<Integer> stack, int work, List<Integer> row) {
    }

    /** Forward from now, rows in the order in which the document ranks them. */
    private Way cheapestWay(List<Integer> start, int aim) {
        PriorityQueue<Way> queue = new PriorityQueue<>((a, b) -> {
            if (a.work != b.work) {
                return a.work - b.work;
            }
            if (a.row.size() != b.row.size()) {
                return a.row.size() - b.row.size();
            }
            for (int i = 0; i < a.row.size(); i++) {
                if (!a.row.get(i).equals(b.row.get(i))) {
                    return a.row.get(i) - b.row.get(i);
                }
            }
            return 0;
        });
        queue.add(new Way(start, 0, List.of()));
        Set<List<Integer>> met = new HashSet<>();
        while (!queue.isEmpty()) {
            Way way = queue.poll();
            if (aimed(way.stack, aim)) {
                return way;
            }
            if (met.add(way.stack)) {
                for (int k = 1; k <= n(); k++) {
                    if (may(way.stack, k, heat)) {
                        List<Integer> row = new ArrayList<>(way.row);
                        row.add(k);
                        queue.add(new Way(flip(way.stack, k), way.work + workOf(way.stack, k), row));
                    }
                }
            }
        }
        return null;
    }

    int cheapest(int aim, int what) {
        if (aim < 0 || aim > 2 || what < 0 || what > 1) {
            return -2;
        }
        Way way = cheapestWay(lying, aim);
        return way == null ? -1 : what == 0 ? way.work : way.row.size();
    }

    int way(int aim, int i) {
        if (aim < 0 || aim > 2) {
            return -2;
        }
        if (i < 0) {
            return -3;
        }
        Way way = cheapestWay(lying, aim);
        return way == null || i >= way.row.size() ? -1 : way.row.get(i);
    }

    long rows(int aim, int n) {
        if (aim < 0 || aim > 2) {
            return -2;
        }
        if (n < 0 || n > 9) {
            return -3;
        }
        return rowsFrom(lying, aim, n, new HashMap<>());
    }

    private long rowsFrom(List<Integer> stack, int aim, int n, Map<List<Object>, Long> known) {
        if (n == 0) {
            return aimed(stack, aim) ? 1 : 0;
        }
        List<Object> key = List.of(stack, n);
        if (!known.containsKey(key)) {
            long sum = 0;
            for (int k = 1; k <= n(); k++) {
                sum += may(stack, k, heat) ? rowsFrom(flip(stack, k), aim, n - 1, known) : 0;
            }
            known.put(key, sum);
        }
        return known.get(key);
    }

    /** The least work from each stack, mended till nothing is to mend. */
    private int[] hard(int aim) {
        int[] least = new int[all.size()];
        Arrays.fill(least, Integer.MAX_VALUE);
        int[][] next = new int[all.size()][n() + 1];
        for (int s = 0; s < least.length; s++) {
            for (int k = 1; k <= n(); k++) {
                next[s][k] = may(all.get(s), k, heat) ? numbers.get(flip(all.get(s), k)) : -1;
            }
            least[s] = aimed(all.get(s), aim) ? 0 : Integer.MAX_VALUE;
        }
        boolean mended = true;
        while (mended) {
            mended = false;
            for (int s = 0; s < least.length; s++) {
                for (int k = 1; k <= n(); k++) {
                    if (next[s][k] >= 0 && least[next[s][k]] != Integer.MAX_VALUE
                            && least[next[s][k]] + workOf(all.get(s), k) < least[s]) {
                        least[s] = least[next[s][k]] + workOf(all.get(s), k);
                        mended = true;
                    }
                }
            }
        }
        return least;
    }

    int hardest(int aim, int what) {
        if (aim < 0 || aim > 2 || what < 0 || what > 2) {
            return -2;
        }
        int[] hard = hard(aim);
        int most = -1;
        int first = -1;
        int many = 0;
        for (int s = 0; s < hard.length; s++) {
            if (hard[s] != Integer.MAX_VALUE) {
                many++;
                if (hard[s] > most) {
                    most = hard[s];
                    first = s;
                }
            }
        }
        return new int[] {most, first, many}[what];
    }

    int asHard(int aim, int n) {
        if (aim < 0 || aim > 2) {
            return -2;
        }
        if (n < 0) {
            return -3;
        }
        int many = 0;
        for (int v : hard(aim)) {
            many += v == n && n != Integer.MAX_VALUE ? 1 : 0;
        }
        return many;
    }

    int stands() {
        Set<List<Integer>> met = new HashSet<>();
        ArrayDeque<List<Integer>> open = new ArrayDeque<>();
        open.add(lying);
        met.add(lying);
        while (!open.isEmpty()) {
            List<Integer> stack = open.poll();
            for (int k = 1; k <= n(); k++) {
                if (may(stack, k, heat) && met.add(flip(stack, k))) {
                    open.add(flip(stack, k));
                }
            }
        }
        return met.size();
    }

    // ---- by habit

    int at(long n) {
        if (n < 0 || n > 1_000_000_000_000_000L) {
            return -3;
        }
        if (n < 5000) {
            List<Integer> stack = lying;
            for (int i = 0; i < n; i++) {
                stack = habitOn(stack, heat);
            }
            return numbers.get(stack);
        }
        List<List<Integer>> walk = walk();
        long in = (n - round(0)) % round(1);
        return numbers.get(walk.get((int) (round(0) + in)));
    }

    private List<List<Integer>> walk() {
        LinkedHashSet<List<Integer>> met = new LinkedHashSet<>();
        List<Integer> stack = lying;
        while (met.add(stack)) {
            stack = habitOn(stack, heat);
        }
        List<List<Integer>> walk = new ArrayList<>(met);
        walk.add(stack);
        return walk;
    }

    int round(int what) {
        if (what < 0 || what > 1) {
            return -2;
        }
        List<List<Integer>> walk = walk();
        int lead = walk.indexOf(walk.get(walk.size() - 1));
        return what == 0 ? lead : walk.size() - 1 - lead;
    }

    int tidy() {
        int[] next = new int[all.size()];
        for (int s = 0; s < next.length; s++) {
            next[s] = numbers.get(habitOn(all.get(s), heat));
        }
        int many = 0;
        for (int s = 0; s < next.length; s++) {
            int stack = s;
            for (int i = 0; i < next.length && stack != 0; i++) {
                stack = next[stack];
            }
            many += stack == 0 ? 1 : 0;
        }
        return many;
    }

    int soon() {
        List<List<Integer>> walk = walk();
        for (int i = 0; i < walk.size(); i++) {
            if (right(walk.get(i)) == n()) {
                return i;
            }
        }
        return -1;
    }

    // ---- numbered

    int lies(int what) {
        if (what < 0 || what > 5) {
            return -2;
        }
        int greater = 0;
        int gaps = 0;
        for (int i = 0; i < n(); i++) {
            for (int j = i + 1; j < n(); j++) {
                greater += cake(i, 0) > cake(j, 0) ? 1 : 0;
            }
            int below = i == n() - 1 ? n() + 1 : cake(i + 1, 0);
            int apart = cake(i, 0) - below;
            gaps += apart > 1 || apart < -1 ? 1 : 0;
        }
        // as many rounds as pancakes, less 1 for each swap that puts one into its place
        int[] sizes = new int[n()];
        for (int i = 0; i < n(); i++) {
            sizes[i] = cake(i, 0);
        }
        int rounds = n();
        for (int i = 0; i < n(); i++) {
            while (sizes[i] != i + 1) {
                int to = sizes[i] - 1;
                int moved = sizes[to];
                sizes[to] = sizes[i];
                sizes[i] = moved;
                rounds--;
            }
        }
        return new int[] {numbers.get(lying), all.size(), right(lying), greater, gaps, rounds}[what];
    }

    int stack(int number, int what) {
        if (what < 0 || what > 2) {
            return -2;
        }
        if (number < 0 || number >= all.size()) {
            return -3;
        }
        List<Integer> stack = all.get(number);
        if (what == 2) {
            Way way = cheapestWay(stack, 0);
            return way == null ? -1 : way.work;
        }
        return what == 0 ? ups(stack) : top(stack);
    }

    // ---- seen

    private int refuse(int tray, int least) {
        if (tray < 0 || tray > 3) {
            return -2;
        }
        if (trays[tray] == null) {
            return -6;
        }
        if (trays[tray].length < 1 || trays[tray].length > 8) {
            return -4;
        }
        for (long v : trays[tray]) {
            if (v < least || v > n()) {
                return -3;
            }
        }
        return 0;
    }

    /** All rows by which the sizes are seen, each as its ks, in order. */
    private void seenRows(List<Integer> stack, long[] sizes, int[] row, int at, List<int[]> into) {
        if (at == sizes.length) {
            into.add(row.clone());
            return;
        }
        for (int k = 1; k <= n(); k++) {
            if (may(stack, k, heat)) {
                List<Integer> then = flip(stack, k);
                if (sizes[at] == 0 || sizes[at] == top(then)) {
                    row[at] = k;
                    seenRows(then, sizes, row, at + 1, into);
                }
            }
        }
    }

    private List<int[]> seenRows(int tray) {
        List<int[]> found = new ArrayList<>();
        seenRows(lying, trays[tray], new int[trays[tray].length], 0, found);
        return found;
    }

    long seen(int tray) {
        return refuse(tray, 0) != 0 ? refuse(tray, 0) : seenRows(tray).size();
    }

    int seenBy(int tray, int i) {
        if (refuse(tray, 0) != 0) {
            return refuse(tray, 0);
        }
        if (i < 0) {
            return -3;
        }
        List<int[]> found = seenRows(tray);
        return found.isEmpty() || i >= trays[tray].length ? -1 : found.get(0)[i];
    }

    int turned(int tray, int i) {
        if (refuse(tray, 0) != 0) {
            return refuse(tray, 0);
        }
        if (i < 0) {
            return -3;
        }
        if (i >= trays[tray].length) {
            return -7;
        }
        int bits = 0;
        for (int[] row : seenRows(tray)) {
            bits |= 1 << row[i];
        }
        return bits;
    }

    private List<Integer> heatsOf(int tray) {
        List<Integer> found = new ArrayList<>();
        for (int h = 0; h <= 9; h++) {
            List<Integer> stack = lying;
            boolean so = true;
            for (long v : trays[tray]) {
                stack = habitOn(stack, h);
                so &= top(stack) == v;
            }
            if (so) {
                found.add(h);
            }
        }
        return found;
    }

    int heats(int tray) {
        if (refuse(tray, 1) != 0) {
            return refuse(tray, 1);
        }
        int bits = 0;
        for (int h : heatsOf(tray)) {
            bits += 1 << h;
        }
        return bits;
    }

    int attempt(int tray) {
        if (refuse(tray, 1) != 0) {
            return refuse(tray, 1);
        }
        Map<Object, Integer> stacks = new HashMap<>();
        Map<Object, Integer> sets = new HashMap<>();
        for (int h : heatsOf(tray)) {
            Set<Integer> set = new HashSet<>();
            for (int k = 1; k <= n(); k++) {
                if (may(lying, k, h)) {
                    set.add(k);
                }
            }
            stacks.merge(habitOn(lying, h), 1, Integer::sum);
            sets.merge(set, 1, Integer::sum);
        }
        if (stacks.isEmpty()) {
            return -1;
        }
        int most0 = stacks.values().stream().max(Integer::compare).get();
        int most1 = sets.values().stream().max(Integer::compare).get();
        return most1 < most0 ? 1 : 0;
    }

    // ---- by turns

    /** [0]: where the first one forces within n turns being next, [1]: the other one being next. */
    private boolean[][] forced(boolean[][] within, int size) {
        boolean[][] then = new boolean[2][all.size()];
        for (int s = 0; s < all.size(); s++) {
            List<Integer> stack = all.get(s);
            boolean some = false;
            boolean every = true;
            boolean can = false;
            for (int k = 1; k <= n(); k++) {
                if (may(stack, k, heat)) {
                    can = true;
                    int t = numbers.get(flip(stack, k));
                    some |= within[1][t];
                    every &= within[0][t];
                }
            }
            boolean there = top(stack) == size;
            then[0][s] = there || (can ? some : within[1][s]);
            then[1][s] = there || (can ? every : within[0][s]);
        }
        return then;
    }

    private List<boolean[][]> forcedWithin(int size) {
        List<boolean[][]> list = new ArrayList<>();
        boolean[][] within = new boolean[2][all.size()];
        for (int s = 0; s < all.size(); s++) {
            within[0][s] = top(all.get(s)) == size;
            within[1][s] = within[0][s];
        }
        list.add(within);
        while (true) {
            boolean[][] then = forced(within, size);
            if (Arrays.equals(then[0], within[0]) && Arrays.equals(then[1], within[1])) {
                return list;
            }
            list.add(then);
            within = then;
        }
    }

    int forces(int size) {
        if (size < 1 || size > n()) {
            return -2;
        }
        List<boolean[][]> list = forcedWithin(size);
        for (int i = 0; i < list.size(); i++) {
            if (list.get(i)[0][numbers.get(lying)]) {
                return i;
            }
        }
        return -1;
    }

    int best(int size) {
        int turns = forces(size);
        if (turns < 1) {
            return turns == -2 ? -2 : -1;
        }
        boolean[][] rest = forcedWithin(size).get(turns - 1);
        for (int k = 1; k <= n(); k++) {
            if (may(lying, k, heat) && rest[1][numbers.get(flip(lying, k))]) {
                return k;
            }
        }
        return 0;
    }

    // ---- chances

    private Map<List<Integer>, Long> drawn(int n) {
        Map<List<Integer>, Long> ways = new HashMap<>();
        ways.put(lying, 1L);
        for (int i = 0; i < n; i++) {
            Map<List<Integer>, Long> then = new HashMap<>();
            ways.forEach((stack, many) -> {
                for (int v = 0; v < 10; v++) {
                    then.merge(may(stack, v, heat) ? flip(stack, v) : stack, many, Long::sum);
                }
            });
            ways = then;
        }
        return ways;
    }

    private static int lowest(long above, int n, int what) {
        long below = 1;
        for (int i = 0; i < n; i++) {
            below *= 10;
        }
        for (int prime : new int[] {2, 5}) {
            while (above % prime == 0 && below % prime == 0) {
                above /= prime;
                below /= prime;
            }
        }
        return (int) (what == 0 ? above : below);
    }

    int chance(int aim, int n, int what) {
        if (aim < 0 || aim > 2 || what < 0 || what > 1) {
            return -2;
        }
        if (n < 0 || n > 7) {
            return -3;
        }
        long sum = 0;
        for (Map.Entry<List<Integer>, Long> e : drawn(n).entrySet()) {
            sum += aimed(e.getKey(), aim) ? e.getValue() : 0;
        }
        return lowest(sum, n, what);
    }

    int mean(int n, int what) {
        if (what < 0 || what > 1) {
            return -2;
        }
        if (n < 0 || n > 7) {
            return -3;
        }
        long sum = 0;
        for (Map.Entry<List<Integer>, Long> e : drawn(n).entrySet()) {
            sum += right(e.getKey()) * e.getValue();
        }
        return lowest(sum, n, what);
    }

    // ---- trays, images

    int numbers(int tray, int sort, int n) {
        if (tray < 0 || tray > 3 || sort < 0 || sort > 3) {
            return -2;
        }
        if (n < 0 || n > 40) {
            return -3;
        }
        trays[tray] = new long[n];
        sorts[tray] = sort;
        return 0;
    }

    private long put(int tray, int i, long v) {
        int gone = 64 - (8 << sorts[tray]);
        trays[tray][i] = v << gone >> gone;
        return trays[tray][i];
    }

    long write(int tray, int i, long v) {
        if (tray < 0 || tray > 3) {
            return -2;
        }
        if (trays[tray] == null) {
            return -6;
        }
        if (i < 0 || i >= trays[tray].length) {
            return -7;
        }
        return put(tray, i, v);
    }

    int lists(int tray, int number) {
        if (tray < 0 || tray > 3) {
            return -2;
        }
        if (trays[tray] == null) {
            return -6;
        }
        if (number < 0 || number >= all.size()) {
            return -3;
        }
        int many = 0;
        for (int i = 0; i < n() && i < trays[tray].length; i++) {
            put(tray, i, all.get(number).get(i));
            many++;
        }
        return many;
    }

    int image(int i) {
        if (i < 0 || i > 1) {
            return -2;
        }
        images[i] = new Object[] {text, state()};
        return 0;
    }

    int restore(int i) {
        if (i < 0 || i > 1) {
            return -2;
        }
        if (images[i] == null) {
            return -5;
        }
        text = (PlainText) images[i][0];
        bring((Object[]) images[i][1]);
        past.clear();
        enumerate();
        return 0;
    }

    int count(int what) {
        if (what < 0 || what > 5) {
            return -1;
        }
        return new int[] {n(), heat, work, past.size(), tape.size(), text.lines}[what];
    }
}
