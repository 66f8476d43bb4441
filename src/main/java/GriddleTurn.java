/**
 * Pancakes that are turned from the top, as the document tells it.
 *
 * A STACK is held as its number among all of them, so that a TURN is two looks into small tables.
 * All rows are made with the object and used again: no call makes an object.
 */
public final class GriddleTurn {
    /** There is none. */
    public static final int NONE = -1;

    private static final int NO_SUCH = -2;
    private static final int BAD_NUMBER = -3;
    private static final int TOO_MANY = -4;
    private static final int NOT_NOW = -5;
    private static final int MISSING = -6;
    private static final int NO_PLACE = -7;
    private static final int WHY_NOT = -10;
    private static final int FAULTY = -30;

    private static final int LONGEST_TEXT = 900;
    private static final int MOST_CAKES = 5;
    private static final int MOST_ORDERS = 120;
    private static final int MOST_SIDES = 32;
    private static final int MOST_STACKS = MOST_ORDERS * MOST_SIDES;
    private static final int HEATS = 10;
    private static final int AIMS = 3;
    private static final int TRAYS = 4;
    private static final int IMAGES = 2;
    private static final int MOST_UNDONE = 10;
    private static final int MOST_SEEN = 8;
    private static final int MOST_DRAWN = 7;
    private static final int LOTS = 10;

    private final Reader reader;
    private final Plate plate;
    private final Stacks stacks;
    private final Kitchen kitchen;
    private final Going going;
    private final Hardness[] hardness;
    private final Rows rows;
    private final Forcing forcing;

    private final Lying now;
    private final Lying before;
    private final Lying[] past;
    private int undoable;

    private final Tray[] trays;
    private final Plate[] imagePlates;
    private final Lying[] imageLyings;
    private int imagesMade;

    public GriddleTurn() {
        reader = new Reader();
        plate = new Plate();
        stacks = new Stacks();
        kitchen = new Kitchen(stacks, plate);
        int[] first = new int[MOST_STACKS];
        int[] second = new int[MOST_STACKS];
        going = new Going(stacks, kitchen, first);
        rows = new Rows(stacks, kitchen, first, second);
        forcing = new Forcing(stacks, kitchen, first, second);
        hardness = new Hardness[AIMS];
        for (int aim = 0; aim < AIMS; aim++) {
            hardness[aim] = new Hardness(stacks, kitchen, aim, first, second);
        }
        now = new Lying();
        before = new Lying();
        past = new Lying[MOST_UNDONE];
        for (int i = 0; i < MOST_UNDONE; i++) {
            past[i] = new Lying();
        }
        trays = new Tray[TRAYS];
        for (int i = 0; i < TRAYS; i++) {
            trays[i] = new Tray();
        }
        imagePlates = new Plate[IMAGES];
        imageLyings = new Lying[IMAGES];
        for (int i = 0; i < IMAGES; i++) {
            imagePlates[i] = new Plate();
            imageLyings[i] = new Lying();
        }
    }

    // ---- the plate

    public int feed(int a, int b, int c, int d, int e) {
        if (reader.filled + 20 > LONGEST_TEXT) {
            return NOT_NOW;
        }
        reader.append(a);
        reader.append(b);
        reader.append(c);
        reader.append(d);
        reader.append(e);
        return reader.filled;
    }

    public int plate(int n) {
        if (n < 0 || n > reader.filled) {
            return BAD_NUMBER;
        }
        reader.readText(n);
        if (reader.fault != 0) {
            return FAULTY - reader.fault;
        }
        plate.take(reader.draft);
        setOut();
        now.stack = stacks.numberOf(plate.sizes, plate.ups);
        now.heat = plate.heat;
        now.work = 0;
        return plate.lines;
    }

    public int fault(int what) {
        if (what == 0) {
            return reader.fault;
        }
        return what == 1 ? reader.faultPlace : NONE;
    }

    public int cake(int i, int what) {
        if (i < 0 || i >= stacks.cakes || what < 0 || what > 1) {
            return NO_SUCH;
        }
        return what == 0 ? stacks.sizeAt(now.stack, i) : stacks.upAt(now.stack, i);
    }

    public int why(int k) {
        return kitchen.whyNot(now.stack, k, now.heat);
    }

    public int by(int k, int what) {
        if (what < 0 || what > 3) {
            return NO_SUCH;
        }
        if (kitchen.whyNot(now.stack, k, now.heat) != 0) {
            return NOT_NOW;
        }
        int then = stacks.turnOver(now.stack, k);
        switch (what) {
            case 0:
                return then;
            case 1:
                return stacks.rightOf(then);
            case 2:
                return stacks.sizeAt(then, 0);
            default:
                return stacks.workOf(now.stack, k);
        }
    }

    public int habit() {
        return kitchen.habitTurns(now.stack, now.heat);
    }

    // ---- deeds

    public int turn(int k) {
        int why = kitchen.whyNot(now.stack, k, now.heat);
        if (why != 0) {
            return WHY_NOT - why;
        }
        before.take(now);
        turnNow(now, k);
        remember();
        return now.work - before.work;
    }

    public int habits(int n) {
        if (n < 1 || n > 99) {
            return BAD_NUMBER;
        }
        before.take(now);
        for (int i = 0; i < n; i++) {
            turnNow(now, kitchen.habitTurns(now.stack, now.heat));
        }
        remember();
        return stacks.rightOf(now.stack);
    }

    public int heat(int n) {
        if (n < 0 || n >= HEATS) {
            return WHY_NOT - 1;
        }
        before.take(now);
        now.heat = n;
        remember();
        return before.heat;
    }

    public int undo(int n) {
        if (n < 1 || n > undoable) {
            return BAD_NUMBER;
        }
        undoable -= n;
        now.take(past[undoable]);
        return undoable;
    }

    public int judge(int tray, int what) {
        if (tray < 0 || tray >= TRAYS || what < 0 || what > 3) {
            return NO_SUCH;
        }
        Tray deeds = trays[tray];
        if (deeds.isMissing()) {
            return MISSING;
        }
        before.take(now);
        int done = doDeeds(before, deeds);
        switch (what) {
            case 0:
                return done < deeds.length ? done : NONE;
            case 1:
                return done < deeds.length ? whyNoDeed(before, deeds.numberAt(done)) : 0;
            case 2:
                return before.stack;
            default:
                return before.work - now.work;
        }
    }

    public int perform(int tray) {
        if (tray < 0 || tray >= TRAYS) {
            return NO_SUCH;
        }
        if (trays[tray].isMissing()) {
            return MISSING;
        }
        before.take(now);
        int done = doDeeds(now, trays[tray]);
        if (done > 0) {
            remember();
        }
        return done;
    }

    public int breakfast(int seed, int times) {
        if (times < 1 || times > 40) {
            return BAD_NUMBER;
        }
        before.take(now);
        int x = seed;
        int done = 0;
        for (int i = 0; i < times; i++) {
            x = nextSeed(x);
            int lot = (x >>> 16) % 4;
            int deed = 0;
            if (lot != 0) {
                x = nextSeed(x);
                deed = lot == 3 ? 10 + (x >>> 16) % 10 : (x >>> 16) % 6;
            }
            if (doDeed(now, deed)) {
                done++;
            }
        }
        if (done > 0) {
            remember();
        }
        return done;
    }

    // ---- cheapest

    public int cheapest(int aim, int what) {
        if (aim < 0 || aim >= AIMS || what < 0 || what > 1) {
            return NO_SUCH;
        }
        Hardness hard = hardness[aim];
        hard.settle(now.heat);
        return what == 0 ? hard.workFrom(now.stack) : hard.turnsFrom(now.stack);
    }

    public int way(int aim, int i) {
        if (aim < 0 || aim >= AIMS) {
            return NO_SUCH;
        }
        if (i < 0) {
            return BAD_NUMBER;
        }
        Hardness hard = hardness[aim];
        hard.settle(now.heat);
        if (i >= hard.turnsFrom(now.stack)) {
            return NONE;
        }
        int stack = now.stack;
        for (int step = 0; step < i; step++) {
            stack = stacks.turnOver(stack, hard.firstTurn(stack));
        }
        return hard.firstTurn(stack);
    }

    public long rows(int aim, int n) {
        if (aim < 0 || aim >= AIMS) {
            return NO_SUCH;
        }
        if (n < 0 || n > 9) {
            return BAD_NUMBER;
        }
        kitchen.chartFor(now.heat);
        rows.begin(now.stack);
        for (int i = 0; i < n; i++) {
            rows.turnOnce(0);
        }
        return rows.sumAtAim(aim);
    }

    public int hardest(int aim, int what) {
        if (aim < 0 || aim >= AIMS || what < 0 || what > 2) {
            return NO_SUCH;
        }
        Hardness hard = hardness[aim];
        hard.settle(now.heat);
        if (what == 2) {
            return hard.howManyCan();
        }
        int number = hard.hardestStack();
        return what == 0 ? hard.workFrom(number) : number;
    }

    public int asHard(int aim, int n) {
        if (aim < 0 || aim >= AIMS) {
            return NO_SUCH;
        }
        if (n < 0) {
            return BAD_NUMBER;
        }
        hardness[aim].settle(now.heat);
        return hardness[aim].howManyOf(n);
    }

    public int stands() {
        kitchen.chartFor(now.heat);
        return forcing.howManyReached(now.stack);
    }

    // ---- by habit

    public int at(long n) {
        if (n < 0L || n > 1000000000000000L) {
            return BAD_NUMBER;
        }
        kitchen.chartFor(now.heat);
        return going.behind(now.stack, n);
    }

    public int round(int what) {
        if (what < 0 || what > 1) {
            return NO_SUCH;
        }
        kitchen.chartFor(now.heat);
        going.follow(now.stack);
        return what == 0 ? going.lead : going.length;
    }

    public int tidy() {
        kitchen.chartFor(now.heat);
        return going.howManyEndRight();
    }

    public int soon() {
        kitchen.chartFor(now.heat);
        return going.turnsTillRight(now.stack);
    }

    // ---- numbered

    public int lies(int what) {
        switch (what) {
            case 0:
                return now.stack;
            case 1:
                return stacks.all;
            case 2:
                return stacks.rightOf(now.stack);
            case 3:
                return stacks.upperGreater(now.stack);
            case 4:
                return stacks.gaps(now.stack);
            case 5:
                return stacks.rounds(now.stack);
            default:
                return NO_SUCH;
        }
    }

    public int stack(int number, int what) {
        if (what < 0 || what > 2) {
            return NO_SUCH;
        }
        if (number < 0 || number >= stacks.all) {
            return BAD_NUMBER;
        }
        if (what == 0) {
            return stacks.upsOf(number);
        }
        if (what == 1) {
            return stacks.sizeAt(number, 0);
        }
        hardness[0].settle(now.heat);
        return hardness[0].workFrom(number);
    }

    // ---- seen

    public long seen(int tray) {
        int refusal = refuseSizes(tray, 0);
        if (refusal != 0) {
            return refusal;
        }
        Tray sizes = trays[tray];
        kitchen.chartFor(now.heat);
        rows.begin(now.stack);
        for (int i = 0; i < sizes.length; i++) {
            rows.turnOnce((int) sizes.numberAt(i));
        }
        return rows.sum();
    }

    public int seenBy(int tray, int i) {
        int refusal = refuseSizes(tray, 0);
        if (refusal != 0) {
            return refusal;
        }
        if (i < 0) {
            return BAD_NUMBER;
        }
        if (i >= trays[tray].length) {
            return NONE;
        }
        kitchen.chartFor(now.heat);
        rows.mark(now.stack, trays[tray]);
        return rows.firstMarkedTurn(now.stack, i);
    }

    public int turned(int tray, int i) {
        int refusal = refuseSizes(tray, 0);
        if (refusal != 0) {
            return refusal;
        }
        if (i < 0) {
            return BAD_NUMBER;
        }
        if (i >= trays[tray].length) {
            return NO_PLACE;
        }
        kitchen.chartFor(now.heat);
        rows.mark(now.stack, trays[tray]);
        return rows.markedTurns(i);
    }

    public int heats(int tray) {
        int refusal = refuseSizes(tray, 1);
        return refusal != 0 ? refusal : heatsBySizes(trays[tray]);
    }

    public int attempt(int tray) {
        int refusal = refuseSizes(tray, 1);
        if (refusal != 0) {
            return refusal;
        }
        int these = heatsBySizes(trays[tray]);
        if (these == 0) {
            return NONE;
        }
        return mostAlike(these, 1) < mostAlike(these, 0) ? 1 : 0;
    }

    // ---- by turns

    public int forces(int size) {
        if (size < 1 || size > stacks.cakes) {
            return NO_SUCH;
        }
        kitchen.chartFor(now.heat);
        return forcing.turnsToForce(now.stack, size);
    }

    public int best(int size) {
        if (size < 1 || size > stacks.cakes) {
            return NO_SUCH;
        }
        kitchen.chartFor(now.heat);
        return forcing.firstForcingTurn(now.stack, size);
    }

    // ---- chances

    public int chance(int aim, int n, int what) {
        if (aim < 0 || aim >= AIMS || what < 0 || what > 1) {
            return NO_SUCH;
        }
        if (n < 0 || n > MOST_DRAWN) {
            return BAD_NUMBER;
        }
        drawTurns(n);
        return inLowestTerms(rows.sumAtAim(aim), n, what);
    }

    public int mean(int n, int what) {
        if (what < 0 || what > 1) {
            return NO_SUCH;
        }
        if (n < 0 || n > MOST_DRAWN) {
            return BAD_NUMBER;
        }
        drawTurns(n);
        return inLowestTerms(rows.sumOfRight(), n, what);
    }

    // ---- trays, images

    public int numbers(int tray, int sort, int n) {
        if (tray < 0 || tray >= TRAYS || sort < 0 || sort > 3) {
            return NO_SUCH;
        }
        if (n < 0 || n > Tray.MOST) {
            return BAD_NUMBER;
        }
        trays[tray].lay(sort, n);
        return 0;
    }

    public long write(int tray, int i, long v) {
        if (tray < 0 || tray >= TRAYS) {
            return NO_SUCH;
        }
        if (trays[tray].isMissing()) {
            return MISSING;
        }
        if (i < 0 || i >= trays[tray].length) {
            return NO_PLACE;
        }
        trays[tray].put(i, v);
        return trays[tray].numberAt(i);
    }

    public int lists(int tray, int number) {
        if (tray < 0 || tray >= TRAYS) {
            return NO_SUCH;
        }
        if (trays[tray].isMissing()) {
            return MISSING;
        }
        if (number < 0 || number >= stacks.all) {
            return BAD_NUMBER;
        }
        int places = Math.min(stacks.cakes, trays[tray].length);
        for (int i = 0; i < places; i++) {
            int size = stacks.sizeAt(number, i);
            trays[tray].put(i, stacks.upAt(number, i) == 1 ? -size : size);
        }
        return places;
    }

    public int image(int i) {
        if (i < 0 || i >= IMAGES) {
            return NO_SUCH;
        }
        imagePlates[i].take(plate);
        imageLyings[i].take(now);
        imagesMade |= 1 << i;
        return 0;
    }

    public int restore(int i) {
        if (i < 0 || i >= IMAGES) {
            return NO_SUCH;
        }
        if ((imagesMade >> i & 1) == 0) {
            return NOT_NOW;
        }
        plate.take(imagePlates[i]);
        setOut();
        now.take(imageLyings[i]);
        return 0;
    }

    public int count(int what) {
        switch (what) {
            case 0:
                return stacks.cakes;
            case 1:
                return now.heat;
            case 2:
                return now.work;
            case 3:
                return undoable;
            case 4:
                return reader.filled;
            case 5:
                return plate.lines;
            default:
                return NONE;
        }
    }

    /** Another plate stands there: nothing that was worked out for the old one holds. */
    private void setOut() {
        stacks.layOut(plate.cakes);
        kitchen.forget();
        for (int aim = 0; aim < AIMS; aim++) {
            hardness[aim].forget();
        }
        undoable = 0;
    }

    /** What lay before the call can be brought back; the eldest goes if there are too many. */
    private void remember() {
        if (undoable >= MOST_UNDONE) {
            Lying eldest = past[0];
            for (int i = 1; i < MOST_UNDONE; i++) {
                past[i - 1] = past[i];
            }
            past[MOST_UNDONE - 1] = eldest;
            undoable = MOST_UNDONE - 1;
        }
        past[undoable].take(before);
        undoable++;
    }

    private void turnNow(Lying lying, int k) {
        lying.work += stacks.workOf(lying.stack, k);
        lying.stack = stacks.turnOver(lying.stack, k);
    }

    private int whyNoDeed(Lying lying, long deed) {
        if (deed < 0L || deed > 19L) {
            return 1;
        }
        if (deed == 0L || deed >= 10L) {
            return 0;
        }
        return kitchen.whyNot(lying.stack, (int) deed, lying.heat);
    }

    private boolean doDeed(Lying lying, long deed) {
        if (whyNoDeed(lying, deed) != 0) {
            return false;
        }
        int v = (int) deed;
        if (v >= 10) {
            lying.heat = v - 10;
        } else {
            turnNow(lying, v == 0 ? kitchen.habitTurns(lying.stack, lying.heat) : v);
        }
        return true;
    }

    /** The deeds are done till one can't be: how many. */
    private int doDeeds(Lying lying, Tray deeds) {
        for (int i = 0; i < deeds.length; i++) {
            if (!doDeed(lying, deeds.numberAt(i))) {
                return i;
            }
        }
        return deeds.length;
    }

    private static int nextSeed(int x) {
        return 1103515245 * x + 12345;
    }

    /** Why a tray can't tell what lay on top, 0 if it can. */
    private int refuseSizes(int tray, int least) {
        if (tray < 0 || tray >= TRAYS) {
            return NO_SUCH;
        }
        Tray sizes = trays[tray];
        if (sizes.isMissing()) {
            return MISSING;
        }
        if (sizes.length < 1 || sizes.length > MOST_SEEN) {
            return TOO_MANY;
        }
        for (int i = 0; i < sizes.length; i++) {
            if (sizes.numberAt(i) < least || sizes.numberAt(i) > stacks.cakes) {
                return BAD_NUMBER;
            }
        }
        return 0;
    }

    private int heatsBySizes(Tray sizes) {
        int bits = 0;
        for (int heat = 0; heat < HEATS; heat++) {
            if (habitShows(sizes, heat)) {
                bits |= 1 << heat;
            }
        }
        return bits;
    }

    private boolean habitShows(Tray sizes, int heat) {
        int stack = now.stack;
        for (int i = 0; i < sizes.length; i++) {
            stack = stacks.turnOver(stack, kitchen.habitTurns(stack, heat));
            if (stacks.sizeAt(stack, 0) != sizes.numberAt(i)) {
                return false;
            }
        }
        return true;
    }

    /** The greatest number of these heats by which a trial shows the same. */
    private int mostAlike(int these, int trial) {
        int most = 0;
        for (int heat = 0; heat < HEATS; heat++) {
            if ((these >> heat & 1) != 0) {
                most = Math.max(most, howManyAlike(these, trial, heat));
            }
        }
        return most;
    }

    private int howManyAlike(int these, int trial, int heat) {
        int shown = shownBy(trial, heat);
        int alike = 0;
        for (int other = 0; other < HEATS; other++) {
            if ((these >> other & 1) != 0 && shownBy(trial, other) == shown) {
                alike++;
            }
        }
        return alike;
    }

    private int shownBy(int trial, int heat) {
        if (trial == 0) {
            return stacks.turnOver(now.stack, kitchen.habitTurns(now.stack, heat));
        }
        int bits = 0;
        for (int k = 1; k <= stacks.cakes; k++) {
            if (kitchen.mayTurn(now.stack, k, heat)) {
                bits |= 1 << k;
            }
        }
        return bits;
    }

    private void drawTurns(int n) {
        kitchen.chartFor(now.heat);
        rows.begin(now.stack);
        for (int i = 0; i < n; i++) {
            rows.drawOnce();
        }
    }

    /** A number of the draws there are of n lots, as a fraction: above (0) or below (1). */
    private static int inLowestTerms(int number, int n, int what) {
        int below = 1;
        for (int i = 0; i < n && i < MOST_DRAWN; i++) {
            below *= LOTS;
        }
        int divisor = commonDivisor(number, below);
        if (divisor < 1) {
            return NONE;
        }
        return what == 0 ? number / divisor : below / divisor;
    }

    private static int commonDivisor(int a, int b) {
        int greater = a;
        int lesser = b;
        for (int i = 0; i < 100 && lesser != 0; i++) {
            int rest = greater % lesser;
            greater = lesser;
            lesser = rest;
        }
        return greater;
    }

    private static void fill(int[] row, int n, int v) {
        for (int i = 0; i < n && i < row.length; i++) {
            row[i] = v;
        }
    }

    /** How it lies: all that a call can bring back. */
    private static final class Lying {
        private int stack;
        private int heat;
        private int work;

        void take(Lying other) {
            stack = other.stack;
            heat = other.heat;
            work = other.work;
        }
    }

    /** A tray of numbers, all held as long and cut to their sort when written. */
    private static final class Tray {
        private static final int MOST = 40;

        private final long[] held = new long[MOST];
        private int sort = NONE;
        private int length;

        boolean isMissing() {
            return sort < 0;
        }

        void lay(int newSort, int n) {
            sort = newSort;
            length = Math.max(0, Math.min(n, MOST));
            for (int i = 0; i < MOST; i++) {
                held[i] = 0L;
            }
        }

        long numberAt(int i) {
            return i >= 0 && i < length ? held[i] : 0L;
        }

        void put(int i, long v) {
            if (i >= 0 && i < length) {
                held[i] = cut(v);
            }
        }

        private long cut(long v) {
            switch (sort) {
                case 0:
                    return (byte) v;
                case 1:
                    return (short) v;
                case 2:
                    return (int) v;
                default:
                    return v;
            }
        }
    }

    /**
     * A law in the order in which it is reckoned, operands ahead of what is done with them.
     * Nothing in it can fail or change anything, so both sides of an if, an and, an or are reckoned.
     */
    private static final class Law {
        private static final int FACT = 1000;
        private static final int TOP = 0;
        private static final int UNDER = 1;
        private static final int UP = 2;
        private static final int HEAT = 3;
        private static final int MANY = 4;
        private static final int RIGHT = 5;
        private static final int FACTS = 6;
        private static final int NOT = 2000;
        private static final int CHOOSE = 2001;
        private static final int PLUS = 2002;
        private static final int MINUS = 2003;
        private static final int TIMES = 2004;
        private static final int LIKE = 2005;
        private static final int LESS = 2006;
        private static final int MORE = 2007;
        private static final int AND = 2008;
        private static final int OR = 2009;
        private static final long GREATEST = 1000000L;
        /** Far above seven levels of the five operands that can wait in one. */
        private static final int PILE = 64;

        private final int[] code = new int[LONGEST_TEXT];
        private int length;
        private boolean told;

        void begin() {
            length = 0;
            told = true;
        }

        void strike() {
            length = 0;
            told = false;
        }

        void add(int op) {
            if (length < code.length) {
                code[length] = op;
                length++;
            }
        }

        void take(Law other) {
            System.arraycopy(other.code, 0, code, 0, other.length);
            length = other.length;
            told = other.told;
        }

        int reckon(int[] facts, int[] pile) {
            int high = 0;
            for (int i = 0; i < length; i++) {
                int op = code[i];
                int taken = op < NOT ? 0 : op == NOT ? 1 : op == CHOOSE ? 3 : 2;
                int low = high - taken;
                if (low < 0 || low >= pile.length || high > pile.length) {
                    return 0;
                }
                if (op < FACT) {
                    pile[low] = op;
                } else if (op < NOT) {
                    int fact = op - FACT;
                    pile[low] = fact < facts.length ? facts[fact] : 0;
                } else if (op == NOT) {
                    pile[low] = 1 - pile[low];
                } else if (op == CHOOSE) {
                    pile[low] = pile[low] != 0 ? pile[low + 1] : pile[low + 2];
                } else {
                    pile[low] = joined(op, pile[low], pile[low + 1]);
                }
                high = low + 1;
            }
            return high == 1 ? pile[0] : 0;
        }

        /** A truth is 0 or 1, so that keeping it within the bounds of a sum changes nothing. */
        private static int joined(int op, long a, long b) {
            long v;
            switch (op) {
                case PLUS:
                    v = a + b;
                    break;
                case MINUS:
                    v = a - b;
                    break;
                case TIMES:
                    v = a * b;
                    break;
                case LIKE:
                    v = a == b ? 1 : 0;
                    break;
                case LESS:
                    v = a < b ? 1 : 0;
                    break;
                case MORE:
                    v = a > b ? 1 : 0;
                    break;
                case AND:
                    v = a & b;
                    break;
                default:
                    v = a | b;
                    break;
            }
            if (v < -GREATEST) {
                return (int) -GREATEST;
            }
            return (int) (v > GREATEST ? GREATEST : v);
        }
    }

    /** What a text tells; without one a single pancake. */
    private static final class Plate {
        private final int[] sizes = new int[MOST_CAKES];
        private final int[] ups = new int[MOST_CAKES];
        private final Law may = new Law();
        private final Law habit = new Law();
        private int cakes = 1;
        private int heat;
        private int lines;

        void empty() {
            fill(ups, MOST_CAKES, 0);
            may.strike();
            habit.strike();
            cakes = 0;
            heat = 0;
            lines = 0;
        }

        void take(Plate other) {
            for (int i = 0; i < MOST_CAKES; i++) {
                sizes[i] = other.sizes[i];
                ups[i] = other.ups[i];
            }
            may.take(other.may);
            habit.take(other.habit);
            cakes = other.cakes;
            heat = other.heat;
            lines = other.lines;
        }
    }

    /** The tape, and how its bytes are read as a plate: the first fault along the text ends it. */
    private static final class Reader {
        private static final int MOST_WITHIN = 6;
        private static final String SIGNS = ";:+-*()[]=<>";
        /** A word's kind is its place here, FACT being the first, those of a law's facts in their order. */
        private static final String WORDS =
                "top under up heat many right plate cake may habit if then else end not and or ";

        // The kinds of tokens; a sign's kind is its own byte.
        private static final int NO_TOKEN = 256;
        private static final int END_OF_TEXT = 257;
        private static final int NUMBER = 258;
        private static final int OTHER_WORD = 259;
        private static final int FACT = 260;
        private static final int UP = FACT + Law.UP;
        private static final int HEAT = FACT + Law.HEAT;
        private static final int MANY = FACT + Law.MANY;
        private static final int RIGHT = FACT + Law.RIGHT;
        private static final int PLATE = FACT + 6;
        private static final int CAKE = FACT + 7;
        private static final int MAY = FACT + 8;
        private static final int HABIT = FACT + 9;
        private static final int IF = FACT + 10;
        private static final int THEN = FACT + 11;
        private static final int ELSE = FACT + 12;
        private static final int END = FACT + 13;
        private static final int NOT = FACT + 14;
        private static final int AND = FACT + 15;
        private static final int OR = FACT + 16;

        private final int[] tape = new int[LONGEST_TEXT];
        private int filled;
        private int end;
        private int next;
        private int kind;
        private int value;
        private int place;
        private final Plate draft = new Plate();
        private Law law = draft.may;
        private int factOfOther = RIGHT;
        private int sizesTold;
        private int fault;
        private int faultPlace = NONE;

        void append(int four) {
            for (int shift = 24; shift >= 0; shift -= 8) {
                if (filled < tape.length) {
                    tape[filled] = four >>> shift & 255;
                    filled++;
                }
            }
        }

        /** Reads the first n bytes; the draft is whole if there is no fault. The tape is empty then. */
        void readText(int n) {
            end = Math.max(0, Math.min(n, filled));
            next = 0;
            filled = 0;
            fault = 0;
            faultPlace = NONE;
            sizesTold = 0;
            draft.empty();
            readToken();
            boolean fine = readHead();
            for (int i = 0; i < LONGEST_TEXT && fine && kind != END_OF_TEXT; i++) {
                draft.lines++;
                fine = readLine() && expect(';');
            }
            if (fine) {
                checkSizes();
            }
        }

        private boolean readHead() {
            draft.lines = 1;
            return expect(PLATE) && expect(HEAT) && readHeat() && expect(';');
        }

        private boolean readHeat() {
            if (kind != NUMBER) {
                return fail(2);
            }
            if (value >= HEATS) {
                return fail(3);
            }
            draft.heat = value;
            readToken();
            return true;
        }

        private boolean readLine() {
            switch (kind) {
                case CAKE:
                    return readCake();
                case MAY:
                    return startLaw(draft.may, RIGHT) && readTruth(0);
                case HABIT:
                    return startLaw(draft.habit, MANY) && readSum(0);
                default:
                    return fail(2);
            }
        }

        private boolean readCake() {
            readToken();
            if (kind != NUMBER) {
                return fail(2);
            }
            int cake = draft.cakes;
            if (value < 1 || value > MOST_CAKES || (sizesTold >> value & 1) != 0 || cake >= MOST_CAKES) {
                return fail(3);
            }
            sizesTold |= 1 << value;
            draft.sizes[cake] = value;
            draft.cakes++;
            readToken();
            for (int i = 0; i < LONGEST_TEXT && kind == UP; i++) {
                draft.ups[cake] = 1;
                readToken();
            }
            return true;
        }

        private void checkSizes() {
            if (draft.cakes == 0) {
                draft.sizes[0] = 1;
                draft.cakes = 1;
            } else if (sizesTold != (1 << draft.cakes + 1) - 2) {
                fail(3);
            }
        }

        private boolean startLaw(Law told, int wordOfOther) {
            readToken();
            law = told;
            law.begin();
            factOfOther = wordOfOther;
            return expect(':');
        }

        private boolean readTruth(int within) {
            if (!readBoth(within)) {
                return false;
            }
            for (int i = 0; i < LONGEST_TEXT && kind == OR; i++) {
                readToken();
                if (!readBoth(within)) {
                    return false;
                }
                law.add(Law.OR);
            }
            return true;
        }

        private boolean readBoth(int within) {
            if (!readUnit(within)) {
                return false;
            }
            for (int i = 0; i < LONGEST_TEXT && kind == AND; i++) {
                readToken();
                if (!readUnit(within)) {
                    return false;
                }
                law.add(Law.AND);
            }
            return true;
        }

        private boolean readUnit(int within) {
            if (kind == NOT) {
                if (!goWithin(within) || !readUnit(within + 1)) {
                    return false;
                }
                law.add(Law.NOT);
                return true;
            }
            if (kind == '[') {
                return goWithin(within) && readTruth(within + 1) && expect(']');
            }
            return readSum(within) && readComparison(within);
        }

        private boolean readComparison(int within) {
            int sign = kind;
            if (sign != '=' && sign != '<' && sign != '>') {
                return fail(2);
            }
            readToken();
            if (!readSum(within)) {
                return false;
            }
            law.add(sign == '=' ? Law.LIKE : sign == '<' ? Law.LESS : Law.MORE);
            return true;
        }

        private boolean readSum(int within) {
            if (!readTerm(within)) {
                return false;
            }
            for (int i = 0; i < LONGEST_TEXT && (kind == '+' || kind == '-'); i++) {
                int op = kind == '+' ? Law.PLUS : Law.MINUS;
                readToken();
                if (!readTerm(within)) {
                    return false;
                }
                law.add(op);
            }
            return true;
        }

        private boolean readTerm(int within) {
            if (!readAtom(within)) {
                return false;
            }
            for (int i = 0; i < LONGEST_TEXT && kind == '*'; i++) {
                readToken();
                if (!readAtom(within)) {
                    return false;
                }
                law.add(Law.TIMES);
            }
            return true;
        }

        private boolean readAtom(int within) {
            if (kind == '(') {
                return goWithin(within) && readSum(within + 1) && expect(')');
            }
            if (kind == IF) {
                return goWithin(within) && readChoice(within + 1);
            }
            if (kind == NUMBER) {
                law.add(value);
            } else if (isFactOfLaw()) {
                law.add(Law.FACT + kind - FACT);
            } else {
                return fail(2);
            }
            readToken();
            return true;
        }

        private boolean readChoice(int within) {
            boolean whole = readTruth(within) && expect(THEN) && readSum(within)
                    && expect(ELSE) && readSum(within) && expect(END);
            if (whole) {
                law.add(Law.CHOOSE);
            }
            return whole;
        }

        private boolean isFactOfLaw() {
            return kind >= FACT && kind < FACT + Law.FACTS && kind != factOfOther;
        }

        /** Takes one of not [ ( if, unless it were one too many within one another. */
        private boolean goWithin(int within) {
            if (within >= MOST_WITHIN) {
                return fail(4);
            }
            readToken();
            return true;
        }

        private boolean expect(int wanted) {
            if (kind != wanted) {
                return fail(2);
            }
            readToken();
            return true;
        }

        /** A fault at the token that is looked at; what is no token can't be another fault. */
        private boolean fail(int which) {
            fault = kind == NO_TOKEN ? 1 : which;
            faultPlace = place;
            return false;
        }

        private void readToken() {
            while (next < end && (tape[next] == ' ' || tape[next] == '\n')) {
                next++;
            }
            place = next;
            if (next >= end) {
                kind = END_OF_TEXT;
            } else if (isLetter(tape[next])) {
                while (next < end && isLetter(tape[next])) {
                    next++;
                }
                kind = wordKind();
            } else if (isDigit(tape[next])) {
                readNumber();
            } else {
                kind = SIGNS.indexOf((char) tape[next]) >= 0 ? tape[next] : NO_TOKEN;
                next++;
            }
        }

        private void readNumber() {
            value = 0;
            while (next < end && isDigit(tape[next])) {
                if (next - place < 3) {
                    value = value * 10 + tape[next] - '0';
                }
                next++;
            }
            kind = next - place > 3 ? NO_TOKEN : NUMBER;
        }

        /** The kind of the word that was just taken: letter by letter along all words there are. */
        private int wordKind() {
            int word = FACT;
            int at = place;
            boolean alike = true;
            for (int i = 0; i < WORDS.length(); i++) {
                char letter = WORDS.charAt(i);
                if (letter != ' ') {
                    alike = alike && at < next && tape[at] == letter;
                    at++;
                } else if (alike && at == next) {
                    return word;
                } else {
                    word++;
                    at = place;
                    alike = true;
                }
            }
            return OTHER_WORD;
        }

        private static boolean isLetter(int c) {
            return c >= 'a' && c <= 'z';
        }

        private static boolean isDigit(int c) {
            return c >= '0' && c <= '9';
        }
    }

    /**
     * All ways so many pancakes could lie. A STACK's number is that of its order times the ways
     * of its sides, and that of its sides (the topmost the highest bit, 1 for burnt side up).
     */
    private static final class Stacks {
        private static final int KS = MOST_CAKES + 1;

        private int cakes;
        private int sides;
        private int all;
        private final int[] sizes = new int[MOST_ORDERS * MOST_CAKES];
        private final int[] orderTurned = new int[MOST_ORDERS * KS];
        private final int[] orderWork = new int[MOST_ORDERS * KS];
        private final int[] orderRight = new int[MOST_ORDERS];
        private final int[] sidesTurned = new int[MOST_SIDES * KS];
        private final int[] sidesRight = new int[MOST_SIDES];
        private final int[] sidesUp = new int[MOST_SIDES];
        private final int[] row = new int[MOST_CAKES];

        Stacks() {
            layOut(1);
        }

        void layOut(int n) {
            if (n == cakes || n < 1 || n > MOST_CAKES) {
                return;
            }
            cakes = n;
            sides = 1 << n;
            int orders = 1;
            for (int i = 2; i <= n; i++) {
                orders *= i;
            }
            all = orders * sides;
            for (int order = 0; order < orders; order++) {
                layOrder(order);
                layRight(order);
            }
            for (int order = 0; order < orders; order++) {
                layOrderTurns(order);
            }
            for (int side = 0; side < sides; side++) {
                laySide(side);
            }
        }

        /** The order's number read as digits, each the place of a size among those not yet laid. */
        private void layOrder(int order) {
            int rest = order;
            for (int i = cakes - 1; i >= 0; i--) {
                int choices = cakes - i;
                row[i] = rest % choices;
                rest /= choices;
            }
            int laid = 0;
            for (int i = 0; i < cakes; i++) {
                int size = freeSize(laid, row[i]);
                laid |= 1 << size;
                sizes[order * MOST_CAKES + i] = size;
            }
        }

        private int freeSize(int laid, int place) {
            int left = place;
            for (int size = 1; size <= cakes; size++) {
                if ((laid >> size & 1) == 0) {
                    if (left == 0) {
                        return size;
                    }
                    left--;
                }
            }
            return 0;
        }

        private void layRight(int order) {
            int right = 0;
            while (right < cakes && sizes[order * MOST_CAKES + cakes - 1 - right] == cakes - right) {
                right++;
            }
            orderRight[order] = right;
        }

        private void layOrderTurns(int order) {
            int work = 0;
            for (int k = 0; k <= cakes; k++) {
                if (k > 0) {
                    work += sizes[order * MOST_CAKES + k - 1];
                }
                for (int i = 0; i < cakes; i++) {
                    row[i] = sizes[order * MOST_CAKES + (i < k ? k - 1 - i : i)];
                }
                orderWork[order * KS + k] = work;
                orderTurned[order * KS + k] = orderOf(row);
            }
        }

        private void laySide(int side) {
            int right = 0;
            while (right < cakes && sideAt(side, cakes - 1 - right) == 0) {
                right++;
            }
            sidesRight[side] = right;
            sidesUp[side] = Integer.bitCount(side);
            for (int k = 0; k <= cakes; k++) {
                int then = 0;
                for (int i = 0; i < cakes; i++) {
                    int up = i < k ? 1 - sideAt(side, k - 1 - i) : sideAt(side, i);
                    then = then * 2 + up;
                }
                sidesTurned[side * KS + k] = then;
            }
        }

        private int sideAt(int side, int i) {
            return side >> cakes - 1 - i & 1;
        }

        private int orderOf(int[] told) {
            int order = 0;
            for (int i = 0; i < cakes && i < told.length; i++) {
                int lesser = 0;
                for (int j = i + 1; j < cakes && j < told.length; j++) {
                    if (told[j] < told[i]) {
                        lesser++;
                    }
                }
                order = order * (cakes - i) + lesser;
            }
            return order;
        }

        int numberOf(int[] told, int[] ups) {
            int side = 0;
            for (int i = 0; i < cakes && i < ups.length; i++) {
                side = side * 2 + ups[i];
            }
            return orderOf(told) * sides + side;
        }

        int sizeAt(int stack, int i) {
            if (stack < 0 || stack >= all || i < 0 || i >= cakes) {
                return 0;
            }
            return sizes[(stack >> cakes) * MOST_CAKES + i];
        }

        int upAt(int stack, int i) {
            return i < 0 || i >= cakes ? 0 : sideAt(stack & sides - 1, i);
        }

        int upsOf(int stack) {
            return sidesUp[stack & sides - 1];
        }

        int rightOf(int stack) {
            if (stack < 0 || stack >= all) {
                return 0;
            }
            return Math.min(orderRight[stack >> cakes], sidesRight[stack & sides - 1]);
        }

        /** By a turn of 0 it lies as before. */
        int turnOver(int stack, int k) {
            if (stack < 0 || stack >= all || k < 0 || k > cakes) {
                return stack;
            }
            return orderTurned[(stack >> cakes) * KS + k] << cakes | sidesTurned[(stack & sides - 1) * KS + k];
        }

        int workOf(int stack, int k) {
            if (stack < 0 || stack >= all || k < 0 || k > cakes) {
                return 0;
            }
            return orderWork[(stack >> cakes) * KS + k];
        }

        boolean isAtAim(int stack, int aim) {
            if (aim == 0) {
                return stack == 0;
            }
            return aim == 1 ? stack >> cakes == 0 : (stack & sides - 1) == 0;
        }

        int upperGreater(int stack) {
            int pairs = 0;
            for (int i = 0; i < cakes; i++) {
                for (int j = i + 1; j < cakes; j++) {
                    if (sizeAt(stack, i) > sizeAt(stack, j)) {
                        pairs++;
                    }
                }
            }
            return pairs;
        }

        int gaps(int stack) {
            int pairs = 0;
            for (int i = 0; i < cakes; i++) {
                int below = i + 1 < cakes ? sizeAt(stack, i + 1) : cakes + 1;
                if (Math.abs(sizeAt(stack, i) - below) > 1) {
                    pairs++;
                }
            }
            return pairs;
        }

        int rounds(int stack) {
            int found = 0;
            int met = 0;
            for (int start = 0; start < cakes; start++) {
                if ((met >> start & 1) == 0) {
                    found++;
                }
                int place = start;
                for (int i = 0; i < cakes; i++) {
                    met |= 1 << place;
                    place = sizeAt(stack, place) - 1;
                }
            }
            return found;
        }
    }

    /** What the laws say of stacks: at once for any heat, or charted for the one heat of a search. */
    private static final class Kitchen {
        /** As many sets of four facts as there can be, each fact 0 to 5. */
        private static final int SETS = 1296;

        private final Stacks stacks;
        private final Plate plate;
        private final int[] facts = new int[Law.FACTS];
        private final int[] pile = new int[Law.PILE];
        private int chartedHeat = NONE;
        /** Stacks with like facts are many: what a law told of a set of them, 1 more, 0 if not yet. */
        private final int[] mayTold = new int[SETS];
        private final int[] habitTold = new int[SETS];
        /** By stack, NONE if not yet known: the bits of all k that may be, the stack by habit. */
        private final int[] allowed = new int[MOST_STACKS];
        private final int[] following = new int[MOST_STACKS];

        Kitchen(Stacks stacks, Plate plate) {
            this.stacks = stacks;
            this.plate = plate;
        }

        void forget() {
            chartedHeat = NONE;
        }

        void chartFor(int heat) {
            if (heat != chartedHeat) {
                fill(mayTold, SETS, 0);
                fill(habitTold, SETS, 0);
                fill(allowed, stacks.all, NONE);
                fill(following, stacks.all, NONE);
                chartedHeat = heat;
            }
        }

        int whyNot(int stack, int k, int heat) {
            if (k < 1 || k > stacks.cakes) {
                return 1;
            }
            return mayTurn(stack, k, heat) ? 0 : 2;
        }

        boolean mayTurn(int stack, int k, int heat) {
            if (!plate.may.told) {
                return true;
            }
            tellFacts(stack, stacks.sizeAt(stack, k), heat);
            facts[Law.MANY] = k;
            return plate.may.reckon(facts, pile) != 0;
        }

        /** How many habit turns, 0 if it tells what may not be. */
        int habitTurns(int stack, int heat) {
            int k = habitTells(stack, heat);
            return k > 0 && mayTurn(stack, k, heat) ? k : 0;
        }

        private int habitTells(int stack, int heat) {
            int right = stacks.rightOf(stack);
            if (!plate.habit.told) {
                return Math.min(right + 1, stacks.cakes);
            }
            tellFacts(stack, stacks.sizeAt(stack, stacks.cakes - 1), heat);
            facts[Law.RIGHT] = right;
            return Math.floorMod(plate.habit.reckon(facts, pile), stacks.cakes + 1);
        }

        private void tellFacts(int stack, int under, int heat) {
            facts[Law.TOP] = stacks.sizeAt(stack, 0);
            facts[Law.UNDER] = under;
            facts[Law.UP] = stacks.upsOf(stack);
            facts[Law.HEAT] = heat;
        }

        /** By the charted heat: bit k, if a turn of k may be. */
        int allowedAt(int stack) {
            if (stack < 0 || stack >= allowed.length) {
                return 0;
            }
            if (allowed[stack] == NONE) {
                int bits = 0;
                for (int k = 1; k <= stacks.cakes; k++) {
                    int set = setOf(stack, stacks.sizeAt(stack, k), k);
                    if (mayTold[set] == 0) {
                        mayTold[set] = mayTurn(stack, k, chartedHeat) ? 2 : 1;
                    }
                    bits |= mayTold[set] - 1 << k;
                }
                allowed[stack] = bits;
            }
            return allowed[stack];
        }

        /** By the charted heat: how it lies behind a turn by habit. */
        int followingOf(int stack) {
            if (stack < 0 || stack >= following.length) {
                return 0;
            }
            if (following[stack] == NONE) {
                int set = setOf(stack, stacks.sizeAt(stack, stacks.cakes - 1), stacks.rightOf(stack));
                if (habitTold[set] == 0) {
                    habitTold[set] = habitTells(stack, chartedHeat) + 1;
                }
                int k = habitTold[set] - 1;
                boolean turns = (allowedAt(stack) >> k & 1) != 0;
                following[stack] = turns ? stacks.turnOver(stack, k) : stack;
            }
            return following[stack];
        }

        private int setOf(int stack, int under, int last) {
            int set = ((stacks.sizeAt(stack, 0) * 6 + under) * 6 + stacks.upsOf(stack)) * 6 + last;
            return set >= 0 && set < SETS ? set : 0;
        }
    }

    /** Turns by habit for ever, by the charted heat. */
    private static final class Going {
        private final Stacks stacks;
        private final Kitchen kitchen;
        private final int[] marks;
        private int lead;
        private int length;

        Going(Stacks stacks, Kitchen kitchen, int[] marks) {
            this.stacks = stacks;
            this.kitchen = kitchen;
            this.marks = marks;
        }

        /** Finds how many turns lead into what comes round, and how long that is. */
        void follow(int start) {
            fill(marks, stacks.all, NONE);
            int stack = start;
            int turns = 0;
            while (turns < stacks.all && marks[stack] == NONE) {
                marks[stack] = turns;
                stack = kitchen.followingOf(stack);
                turns++;
            }
            lead = marks[stack];
            length = turns - lead;
        }

        int behind(int start, long turns) {
            follow(start);
            long steps = turns;
            if (turns > lead && length > 0) {
                steps = lead + (turns - lead) % length;
            }
            int stack = start;
            for (int i = 0; i < steps; i++) {
                stack = kitchen.followingOf(stack);
            }
            return stack;
        }

        int turnsTillRight(int start) {
            int stack = start;
            for (int turns = 0; turns < stacks.all; turns++) {
                if (stack == 0) {
                    return turns;
                }
                stack = kitchen.followingOf(stack);
            }
            return NONE;
        }

        /** Marks are 1 for stacks that end right, else 0. */
        int howManyEndRight() {
            fill(marks, stacks.all, NONE);
            marks[0] = 1;
            int ending = 1;
            for (int start = 0; start < stacks.all; start++) {
                ending += markWalk(start);
            }
            return ending;
        }

        /** Marks all new stacks from a start on by where they lead: how many of them end right. */
        private int markWalk(int start) {
            int fresh = 0;
            int stack = start;
            while (fresh < stacks.all && marks[stack] == NONE) {
                marks[stack] = 0;
                stack = kitchen.followingOf(stack);
                fresh++;
            }
            if (marks[stack] != 1) {
                return 0;
            }
            int again = start;
            for (int i = 0; i < fresh; i++) {
                marks[again] = 1;
                again = kitchen.followingOf(again);
            }
            return fresh;
        }
    }

    /**
     * The least work from every stack to one aim, of like work the fewest turns, by one heat.
     * It is found from the aim back (a turn undoes itself), stack by stack as work grows.
     */
    private static final class Hardness {
        /** Work counts so many, a turn 1: more than turns of a cheapest row, so they never mix. */
        private static final int WORK = 4096;
        /** More than the work of the dearest turn, so no two works that wait share a shelf. */
        private static final int SHELVES = 16;

        private final Stacks stacks;
        private final Kitchen kitchen;
        private final int aim;
        private final int[] costs = new int[MOST_STACKS];
        private final int[] shelves = new int[SHELVES];
        private final int[] later;
        private final int[] sooner;
        private int settledHeat = NONE;

        Hardness(Stacks stacks, Kitchen kitchen, int aim, int[] later, int[] sooner) {
            this.stacks = stacks;
            this.kitchen = kitchen;
            this.aim = aim;
            this.later = later;
            this.sooner = sooner;
        }

        void forget() {
            settledHeat = NONE;
        }

        void settle(int heat) {
            if (heat == settledHeat) {
                return;
            }
            kitchen.chartFor(heat);
            settledHeat = heat;
            fill(costs, stacks.all, NONE);
            fill(shelves, SHELVES, NONE);
            for (int stack = 0; stack < stacks.all; stack++) {
                if (stacks.isAtAim(stack, aim)) {
                    costs[stack] = 0;
                    shelve(stack);
                }
            }
            int bare = 0;
            for (int work = 0; work < MOST_STACKS * SHELVES && bare < SHELVES; work++) {
                bare = clearShelf(work % SHELVES) ? 0 : bare + 1;
            }
        }

        /** All on a shelf are settled as they are; false if there was none. */
        private boolean clearShelf(int shelf) {
            boolean some = false;
            for (int i = 0; i < stacks.all && shelves[shelf] != NONE; i++) {
                int stack = shelves[shelf];
                unshelve(stack);
                goBack(stack);
                some = true;
            }
            return some;
        }

        private void goBack(int stack) {
            for (int k = 1; k <= stacks.cakes; k++) {
                int earlier = stacks.turnOver(stack, k);
                if ((kitchen.allowedAt(earlier) >> k & 1) != 0) {
                    int cost = costs[stack] + stacks.workOf(earlier, k) * WORK + 1;
                    if (costs[earlier] == NONE) {
                        costs[earlier] = cost;
                        shelve(earlier);
                    } else if (cost < costs[earlier]) {
                        unshelve(earlier);
                        costs[earlier] = cost;
                        shelve(earlier);
                    }
                }
            }
        }

        private int shelfOf(int stack) {
            return costs[stack] / WORK % SHELVES;
        }

        private void shelve(int stack) {
            int shelf = shelfOf(stack);
            int old = shelves[shelf];
            later[stack] = old;
            sooner[stack] = NONE;
            if (old != NONE) {
                sooner[old] = stack;
            }
            shelves[shelf] = stack;
        }

        private void unshelve(int stack) {
            if (sooner[stack] != NONE) {
                later[sooner[stack]] = later[stack];
            } else {
                shelves[shelfOf(stack)] = later[stack];
            }
            if (later[stack] != NONE) {
                sooner[later[stack]] = sooner[stack];
            }
        }

        private boolean canFrom(int stack) {
            return stack >= 0 && stack < stacks.all && costs[stack] != NONE;
        }

        int workFrom(int stack) {
            return canFrom(stack) ? costs[stack] / WORK : NONE;
        }

        int turnsFrom(int stack) {
            return canFrom(stack) ? costs[stack] % WORK : NONE;
        }

        /** The first k of the cheapest row, 0 if there is no turn in it. */
        int firstTurn(int stack) {
            if (!canFrom(stack)) {
                return 0;
            }
            kitchen.chartFor(settledHeat);
            int allowed = kitchen.allowedAt(stack);
            for (int k = 1; k <= stacks.cakes; k++) {
                int then = stacks.turnOver(stack, k);
                boolean leads = (allowed >> k & 1) != 0 && canFrom(then);
                if (leads && costs[then] + stacks.workOf(stack, k) * WORK + 1 == costs[stack]) {
                    return k;
                }
            }
            return 0;
        }

        /** The aim itself can always be come to, so there is one. */
        int hardestStack() {
            int hardest = 0;
            for (int stack = 1; stack < stacks.all; stack++) {
                if (workFrom(stack) > workFrom(hardest)) {
                    hardest = stack;
                }
            }
            return hardest;
        }

        int howManyCan() {
            int many = 0;
            for (int stack = 0; stack < stacks.all; stack++) {
                if (canFrom(stack)) {
                    many++;
                }
            }
            return many;
        }

        int howManyOf(int work) {
            int many = 0;
            for (int stack = 0; stack < stacks.all; stack++) {
                if (workFrom(stack) == work) {
                    many++;
                }
            }
            return many;
        }
    }

    /** Rows of turns from one stack on, by the charted heat: how many lead where, or which can have been. */
    private static final class Rows {
        private final Stacks stacks;
        private final Kitchen kitchen;
        private int[] ways;
        private int[] waysThen;

        Rows(Stacks stacks, Kitchen kitchen, int[] ways, int[] waysThen) {
            this.stacks = stacks;
            this.kitchen = kitchen;
            this.ways = ways;
            this.waysThen = waysThen;
        }

        void begin(int stack) {
            fill(ways, stacks.all, 0);
            if (stack >= 0 && stack < ways.length) {
                ways[stack] = 1;
            }
        }

        /** One turn more, behind which a size is seen on top (0: any). */
        void turnOnce(int size) {
            fill(waysThen, stacks.all, 0);
            for (int stack = 0; stack < stacks.all; stack++) {
                if (ways[stack] != 0) {
                    spread(stack, size);
                }
            }
            changeRows();
        }

        /** One lot more: those by which none is turned leave it as it lies. */
        void drawOnce() {
            fill(waysThen, stacks.all, 0);
            for (int stack = 0; stack < stacks.all; stack++) {
                if (ways[stack] != 0) {
                    waysThen[stack] += ways[stack] * (LOTS - spread(stack, 0));
                }
            }
            changeRows();
        }

        private void changeRows() {
            int[] old = ways;
            ways = waysThen;
            waysThen = old;
        }

        /** By how many k the ways of a stack went on. */
        private int spread(int stack, int size) {
            int allowed = kitchen.allowedAt(stack);
            int turns = 0;
            for (int k = 1; k <= stacks.cakes; k++) {
                if ((allowed >> k & 1) != 0) {
                    int then = stacks.turnOver(stack, k);
                    if (size == 0 || stacks.sizeAt(then, 0) == size) {
                        waysThen[then] += ways[stack];
                        turns++;
                    }
                }
            }
            return turns;
        }

        int sum() {
            int sum = 0;
            for (int stack = 0; stack < stacks.all; stack++) {
                sum += ways[stack];
            }
            return sum;
        }

        int sumAtAim(int aim) {
            int sum = 0;
            for (int stack = 0; stack < stacks.all; stack++) {
                if (stacks.isAtAim(stack, aim)) {
                    sum += ways[stack];
                }
            }
            return sum;
        }

        int sumOfRight() {
            int sum = 0;
            for (int stack = 0; stack < stacks.all; stack++) {
                if (ways[stack] != 0) {
                    sum += ways[stack] * stacks.rightOf(stack);
                }
            }
            return sum;
        }

        /**
         * Marks each stack with bit i, if it can lie so behind i turns of a row by which all sizes
         * are seen as told: first by what leads there, then only if the rest can follow too.
         */
        void mark(int start, Tray sizes) {
            begin(start);
            for (int i = 0; i < sizes.length; i++) {
                markThen(i, (int) sizes.numberAt(i));
            }
            for (int i = sizes.length - 1; i >= 0; i--) {
                for (int stack = 0; stack < stacks.all; stack++) {
                    if (isMarked(stack, i) && goingOn(stack, i) == 0) {
                        ways[stack] &= ~(1 << i);
                    }
                }
            }
        }

        private void markThen(int i, int size) {
            for (int stack = 0; stack < stacks.all; stack++) {
                int allowed = isMarked(stack, i) ? kitchen.allowedAt(stack) : 0;
                for (int k = 1; k <= stacks.cakes && allowed != 0; k++) {
                    int then = stacks.turnOver(stack, k);
                    boolean seen = size == 0 || stacks.sizeAt(then, 0) == size;
                    if (seen && (allowed >> k & 1) != 0) {
                        ways[then] |= 1 << i + 1;
                    }
                }
            }
        }

        private boolean isMarked(int stack, int i) {
            return (ways[stack] >> i & 1) != 0;
        }

        /** The bits of all k by which a stack marked with i goes on to one marked with the next. */
        private int goingOn(int stack, int i) {
            int allowed = kitchen.allowedAt(stack);
            int bits = 0;
            for (int k = 1; k <= stacks.cakes; k++) {
                if ((allowed >> k & 1) != 0 && isMarked(stacks.turnOver(stack, k), i + 1)) {
                    bits |= 1 << k;
                }
            }
            return bits;
        }

        /** The i-th turn of the first row that is marked, NONE if none is. */
        int firstMarkedTurn(int start, int i) {
            int stack = start;
            int k = NONE;
            for (int step = 0; step <= i; step++) {
                int bits = isMarked(stack, step) ? goingOn(stack, step) : 0;
                if (bits == 0) {
                    return NONE;
                }
                k = 1;
                while (k < stacks.cakes && (bits >> k & 1) == 0) {
                    k++;
                }
                stack = stacks.turnOver(stack, k);
            }
            return k;
        }

        int markedTurns(int i) {
            int bits = 0;
            for (int stack = 0; stack < stacks.all; stack++) {
                if (isMarked(stack, i)) {
                    bits |= goingOn(stack, i);
                }
            }
            return bits;
        }
    }

    /** Searches stack by stack in a line, by the charted heat: what can be reached, what be forced. */
    private static final class Forcing {
        private final Stacks stacks;
        private final Kitchen kitchen;
        /** Within how many turns it is forced, if the one who forces or the other one turns next. */
        private final int[] ownTurns;
        private final int[] otherTurns;
        /** By how many turns of the other one it is not yet known to be forced. */
        private final int[] open = new int[MOST_STACKS];
        /** Those found and not yet gone back from, as twice the stack, and 1 if the other one turns. */
        private final int[] line = new int[2 * MOST_STACKS];
        private int lined;

        Forcing(Stacks stacks, Kitchen kitchen, int[] ownTurns, int[] otherTurns) {
            this.stacks = stacks;
            this.kitchen = kitchen;
            this.ownTurns = ownTurns;
            this.otherTurns = otherTurns;
        }

        private void lineUp(int entry) {
            if (lined < line.length) {
                line[lined] = entry;
                lined++;
            }
        }

        int howManyReached(int start) {
            fill(ownTurns, stacks.all, NONE);
            lined = 0;
            ownTurns[start] = 0;
            lineUp(start);
            for (int i = 0; i < lined; i++) {
                int allowed = kitchen.allowedAt(line[i]);
                for (int k = 1; k <= stacks.cakes; k++) {
                    int then = stacks.turnOver(line[i], k);
                    if ((allowed >> k & 1) != 0 && ownTurns[then] == NONE) {
                        ownTurns[then] = 0;
                        lineUp(then);
                    }
                }
            }
            return lined;
        }

        int turnsToForce(int start, int size) {
            settle(start, size);
            return ownTurns[start];
        }

        int firstForcingTurn(int start, int size) {
            settle(start, size);
            int turns = ownTurns[start];
            if (turns < 1) {
                return NONE;
            }
            int allowed = kitchen.allowedAt(start);
            for (int k = 1; k <= stacks.cakes; k++) {
                if ((allowed >> k & 1) != 0 && otherTurns[stacks.turnOver(start, k)] == turns - 1) {
                    return k;
                }
            }
            return NONE;
        }

        /**
         * Goes back from where the size is on top, fewest turns first, till it is known for the start.
         * Who can't turn lets it lie for ever, as the other one can't either: nothing is forced there.
         */
        private void settle(int start, int size) {
            lined = 0;
            for (int stack = 0; stack < stacks.all; stack++) {
                boolean there = stacks.sizeAt(stack, 0) == size;
                ownTurns[stack] = there ? 0 : NONE;
                otherTurns[stack] = there ? 0 : NONE;
                open[stack] = Integer.bitCount(kitchen.allowedAt(stack));
                if (there) {
                    lineUp(stack * 2);
                    lineUp(stack * 2 + 1);
                }
            }
            for (int i = 0; i < lined && ownTurns[start] == NONE; i++) {
                goBack(line[i] / 2, line[i] % 2 == 1);
            }
        }

        private void goBack(int stack, boolean otherNext) {
            for (int k = 1; k <= stacks.cakes; k++) {
                int earlier = stacks.turnOver(stack, k);
                if ((kitchen.allowedAt(earlier) >> k & 1) == 0) {
                    continue;
                }
                if (otherNext) {
                    if (ownTurns[earlier] == NONE) {
                        ownTurns[earlier] = otherTurns[stack] + 1;
                        lineUp(earlier * 2);
                    }
                } else {
                    open[earlier]--;
                    if (open[earlier] == 0 && otherTurns[earlier] == NONE) {
                        otherTurns[earlier] = ownTurns[stack] + 1;
                        lineUp(earlier * 2 + 1);
                    }
                }
            }
        }
    }
}
