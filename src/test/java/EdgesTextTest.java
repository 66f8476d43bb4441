import java.io.IOException;
import java.util.Arrays;
import java.util.List;

/** The edges of a text: the first part of the Terms, and promises 1 to 4. */
public final class EdgesTextTest {
    private static final String HEAD = "plate heat 1;";
    private static final int[] FAR = {Integer.MIN_VALUE, Integer.MIN_VALUE + 1, -900, -2, -1};
    private static Edges edges;

    public static void main(String[] args) throws IOException {
        edges = new Edges("EdgesTextTest");
        newObject();
        tape();
        plates();
        latestFault();
        longTexts();
        cutTexts();
        heads();
        sizes();
        tokens();
        likeWords();
        order();
        ends();
        standing();
        within();
        striking();
        edges.end(0, 4);
    }

    private static void due(String call, long want, long got) {
        edges.due(call, want, got);
    }

    private static String shown(String text) {
        return "'" + (text.length() > 120 ? text.substring(0, 117) + "..." : text).replace("\n", "\\n") + "'";
    }

    private static void fine(String text, int lines) {
        GriddleTurn x = new GriddleTurn();
        due(shown(text), lines, Check.tell(x, text));
        due(shown(text) + " fault(0)", 0, x.fault(0));
        due(shown(text) + " fault(1)", -1, x.fault(1));
        due(shown(text) + " count(5)", lines, x.count(5));
    }

    private static void faulty(String text, int kind, int place) {
        GriddleTurn x = new GriddleTurn();
        due(shown(text), -30 - kind, Check.tell(x, text));
        due(shown(text) + " fault(0)", kind, x.fault(0));
        due(shown(text) + " fault(1)", place, x.fault(1));
    }

    private static void feedBlanks(GriddleTurn x, int times) {
        for (int i = 0; i < times; i++) {
            x.feed(0x20202020, 0x20202020, 0x20202020, 0x20202020, 0x20202020);
        }
    }

    private static void newObject() {
        GriddleTurn x = new GriddleTurn();
        edges.says(1, "One PANCAKE.");
        due("count(0)", 1, x.count(0));
        due("cake(0, 0)", 1, x.cake(0, 0));
        due("cake(1, 0)", -2, x.cake(1, 0));
        due("why(1)", 0, x.why(1));
        due("why(2)", 1, x.why(2));
        due("lies(1)", 2, x.lies(1));
        due("no work", 0, x.count(2));
        due("nothing to undo", 0, x.count(3));
        due("undo(1)", -3, x.undo(1));
        due("an empty tape", 0, x.count(4));
        due("plate(1)", -3, x.plate(1));
        due("no lines", 0, x.count(5));
        edges.says(Edges.TERMS, "without one: 1 PANCAKE, burnt side down, HEAT 0");
        due("cake(0, 1)", 0, x.cake(0, 1));
        due("lies(0)", 0, x.lies(0));
        due("count(1)", 0, x.count(1));
        due("heat(9)", 0, x.heat(9));
        edges.says(Edges.TERMS, "TRAYS 0 to 3 are MISSING at first");
        for (int tray = 0; tray < 4; tray++) {
            due("write to " + tray, -6, x.write(tray, 0, 1));
        }
        edges.says(Edges.TERMS, "nothing can be UNDONE behind (none at first)");
        due("restore(0)", -5, x.restore(0));
        due("restore(1)", -5, x.restore(1));
    }

    private static void tape() {
        GriddleTurn x = new GriddleTurn();
        edges.says(2, "Twenty bytes come behind those on THE TAPE, the highest of each int first: how many it has.");
        due("the first", 20, x.feed(0x706c6174, 0x65206865, 0x61742037, 0x3b68610a, 0x6269740a));
        due("the second", 40, x.feed(0x3a207269, 0x67687420, 0x2b20303b, 0x20202020, 0x2020203f));
        due("count(4)", 40, x.count(4));
        // "plate heat 7;ha\nbit\n: right + 0;       ?": the words are apart, so that the second can't stand there
        due("plate(40)", -32, x.plate(40));
        due("place", 13, x.fault(1));
        String all = "plate heat 7;cake 1;cake 3;cake 2 up; \n";
        due("every byte in its place", 4, Check.tell(x, all));
        due("heat", 7, x.count(1));
        due("lies", 8 + 1, x.lies(0));
        for (int place = 0; place < 20; place++) {
            int[] ints = {0x20202020, 0x20202020, 0x20202020, 0x20202020, 0x20202020};
            ints[place / 4] ^= (0x20 ^ 0xff) << 24 - place % 4 * 8;
            x.feed(ints[0], ints[1], ints[2], ints[3], ints[4]);
            due("byte 255 at " + place, -31, x.plate(20));
            due("its place", place, x.fault(1));
        }
        edges.says(2, "-5: it would have more than 900.");
        for (int i = 1; i <= 45; i++) {
            due("feed " + i, 20L * i, x.feed(0x20202020, 0x20202020, 0x20202020, 0x20202020, 0x2020203f));
        }
        due("feed 46", -5, x.feed(0, 0, 0, 0, 0));
        due("feed 47", -5, x.feed(0x20202020, 0x20202020, 0x20202020, 0x20202020, 0x20202020));
        due("count(4)", 900, x.count(4));
        due("still the first bytes", -31, x.plate(900));
        due("at", 19, x.fault(1));
        due("there is room again", 20, x.feed(0, 0, 0, 0, 0));
    }

    private static void plates() {
        GriddleTurn x = new GriddleTurn();
        edges.says(3, "-3: n is below 0 or above what there is (THE TAPE stays)");
        due("plate(1) of nothing", -3, x.plate(1));
        x.feed(0x706c6174, 0x65206865, 0x61742038, 0x3b202020, 0x20202020);
        for (int n : FAR) {
            due("plate(" + n + ")", -3, x.plate(n));
        }
        for (int n : new int[] {21, 22, 900, 901, Integer.MAX_VALUE}) {
            due("plate(" + n + ")", -3, x.plate(n));
        }
        due("count(4)", 20, x.count(4));
        due("heat", 0, x.count(1));
        due("plate(20), all there is", 1, x.plate(20));
        due("heat", 8, x.count(1));
        edges.says(3, "The first n bytes of THE TAPE (which is empty then) are THE PLATE");
        due("count(4)", 0, x.count(4));
        due("plate(1)", -3, x.plate(1));
        x.feed(0x706c6174, 0x65206865, 0x61742039, 0x3b3f3f3f, 0x3f3f3f3f);
        feedBlanks(x, 2);
        due("plate(13)", 1, x.plate(13));
        due("heat", 9, x.count(1));
        due("none is left behind the 13", 0, x.count(4));
        x.feed(0x706c6174, 0x65206865, 0x61742036, 0x3b202020, 0x20202020);
        due("plate(12), a byte less", -32, x.plate(12));
        due("empty, too", 0, x.count(4));
        feedBlanks(x, 1);
        due("plate(0)", -32, x.plate(0));
        due("at", 0, x.fault(1));
        due("empty, too", 0, x.count(4));
        edges.says(3, "WORK is 0, nothing can be UNDONE: how many LINES (plate, too; all stays with a FAULT)");
        Check.tell(x, "plate heat 3;cake 2 up;cake 1;habit:2;may:many=2;");
        x.turn(2);
        x.turn(2);
        x.heat(5);
        for (String text : new String[] {"", "plate heat 1;cake 2;", "plate heat 1;cake 1;habit:1;may:1=1;?"}) {
            due("refused " + shown(text), 1, Check.tell(x, text) < -30 ? 1 : 0);
            int[] counts = {2, 5, 6, 3, 0, 5};
            for (int what = 0; what < counts.length; what++) {
                due("count(" + what + ")", counts[what], x.count(what));
            }
            due("lies(0)", 6, x.lies(0));
            due("habit()", 2, x.habit());
            due("why(1)", 2, x.why(1));
        }
        due("read", 2, Check.tell(x, "plate heat 1;may:1=1;"));
        int[] counts = {1, 1, 0, 0, 0, 2};
        for (int what = 0; what < counts.length; what++) {
            due("count(" + what + ")", counts[what], x.count(what));
        }
        due("undo(1)", -3, x.undo(1));
        due("the law habit is gone", 1, x.habit());
        due("read again", 1, Check.tell(x, "plate heat 1;"));
        edges.says(3, "-30 less the FAULT");
        due("1", -31, Check.tell(x, "?"));
        due("2", -32, Check.tell(x, "heat"));
        due("3", -33, Check.tell(x, "plate heat 10;"));
        due("4", -34, Check.tell(x, "plate heat 1;habit:((((((((1;"));
    }

    private static void latestFault() {
        GriddleTurn x = new GriddleTurn();
        edges.says(4, "Of the latest plate() that was read, what 0: its FAULT (0), 1: its place (NONE). NONE for others.");
        due("none was read", 0, x.fault(0));
        due("none was read", -1, x.fault(1));
        Check.tell(x, "plate heat 10;");
        due("fault(0)", 3, x.fault(0));
        due("fault(1)", 11, x.fault(1));
        for (int what : new int[] {2, 3, -1, Integer.MIN_VALUE, Integer.MAX_VALUE}) {
            due("fault(" + what + ")", -1, x.fault(what));
        }
        due("plate(1) isn't read", -3, x.plate(1));
        due("plate(-1) isn't read", -3, x.plate(-1));
        due("fault(0)", 3, x.fault(0));
        due("fault(1)", 11, x.fault(1));
        x.feed(0, 0, 0, 0, 0);
        due("not by feed", 11, x.fault(1));
        due("read", -31, x.plate(20));
        due("fault(0)", 1, x.fault(0));
        due("fault(1)", 0, x.fault(1));
        due("read", 1, Check.tell(x, HEAD));
        due("fault(0)", 0, x.fault(0));
        due("fault(1)", -1, x.fault(1));
        x.image(0);
        Check.tell(x, "plate heat 1;cake 6;");
        due("image and restore leave it", 0, x.restore(0));
        due("fault(0)", 3, x.fault(0));
        due("fault(1)", 18, x.fault(1));
    }

    private static void longTexts() {
        edges.says(Edges.TERMS, "THE PLATE is a TEXT of at most 900 bytes");
        String ups = "plate heat 7;cake 1" + " up".repeat(293) + " ;";
        due("length", 900, ups.length());
        GriddleTurn x = Check.told(ups);
        due("lines", 2, x.count(5));
        due("up", 1, x.cake(0, 1));
        due("heat", 7, x.count(1));
        String sum = "plate heat 0;habit: " + "1+".repeat(439) + "2;";
        due("length", 900, sum.length());
        x = Check.told(sum);
        due("441 by 2", 1, x.habit());
        x = Check.told(sum.replace("+2;", "+3;"));
        due("442 by 2", 0, x.habit());
        String truth = "plate heat 0;cake 1;may:1=2" + "or 1=2".repeat(144) + "or 1=1";
        truth = truth + " ".repeat(899 - truth.length()) + ";";
        due("length", 900, truth.length());
        due("the last one of many", 0, Check.told(truth).why(1));
        due("none of many", 2, Check.told(truth.replace("or 1=1", "or 1=2")).why(1));
        String laws = HEAD + "may:1=1;".repeat(110) + " ".repeat(7);
        due("length", 900, laws.length());
        fine(laws, 111);
        faulty(laws.substring(0, 899) + "?", 1, 899);
        faulty(laws.substring(0, 899) + ";", 2, 899);
        faulty(HEAD + "cake 2;" + " ".repeat(880), 3, 900);
        faulty(" ".repeat(900), 2, 900);
    }

    /** What lies on the tape behind the n bytes makes no other text of them, also if a token would go on. */
    private static void cutTexts() {
        edges.says(3, "The first n bytes of THE TAPE (which is empty then) are THE PLATE");
        String whole = "plate heat 12;cake 1 up;may:many=12;habit:if top<3 then 1 else 0 end;\n";
        for (String text : new String[] {whole, whole.replace("heat 12", "heat 1")}) {
            for (int n = 0; n <= text.length(); n++) {
                GriddleTurn alone = new GriddleTurn();
                int answer = Check.tell(alone, text.substring(0, n));
                for (String behind : new String[] {"", "p", "1", ";", "?", "up"}) {
                    GriddleTurn x = new GriddleTurn();
                    String tape = text.substring(0, n) + behind.repeat(30) + (behind.isEmpty() ? text.substring(n) : "");
                    for (int at = 0; at < tape.length(); at += 20) {
                        x.feed(Check.four(tape, at), Check.four(tape, at + 4), Check.four(tape, at + 8),
                                Check.four(tape, at + 12), Check.four(tape, at + 16));
                    }
                    String name = shown(text.substring(0, n)) + " ahead of " + shown(behind);
                    due(name, answer, x.plate(n));
                    due(name + " fault(1)", alone.fault(1), x.fault(1));
                }
            }
        }
        GriddleTurn y = new GriddleTurn();
        y.feed(0x706c6174, 0x65206865, 0x61742031, 0x313b2020, 0x20202020);
        due("'plate heat 1' ahead of '1;'", -32, y.plate(12));
        due("the end", 12, y.fault(1));
        // the 900th byte is the last one of a word, of an N, a blank
        String head = HEAD + "cake 1" + " ".repeat(870);
        faulty(head + " ".repeat(900 - head.length() - 2) + "up", 2, 900);
        faulty(head + " ".repeat(900 - head.length() - 3) + "upp", 2, 897);
        faulty(head + " ".repeat(900 - head.length() - 1) + "u", 2, 899);
        faulty(head + " ".repeat(900 - head.length()), 2, 900);
        String last = " ".repeat(888) + "plate heat ";
        faulty(last + "1", 2, 900);
        faulty(last.substring(1) + "10", 3, 898);
        faulty(last.substring(3) + "1234", 1, 896);
    }

    private static void heads() {
        edges.says(Edges.TERMS, "plate heat N ; { LINE ; }");
        fine("plate heat 1;", 1);
        fine("plate heat 1;cake 1;", 2);
        faulty("plate heat 1;;", 2, 13);
        faulty("plate heat 1;cake 1", 2, 19);
        faulty("plate heat 1;cake 1;;", 2, 20);
        edges.says(Edges.TERMS, "plate: the HEAT, 0 to 9.");
        for (int heat = 0; heat <= 12; heat++) {
            for (String zeros : new String[] {"", "0", "00"}) {
                String n = zeros + heat;
                if (n.length() > 3) {
                    continue;
                }
                if (heat <= 9) {
                    due("plate heat " + n, heat, Check.told("plate heat " + n + ";").count(1));
                } else {
                    faulty("plate heat " + n + ";", 3, 11);
                }
            }
        }
        faulty("plate heat 999;", 3, 11);
        edges.says(Edges.TERMS, "plate must be told first, and once");
        faulty("cake 1;", 2, 0);
        faulty("may:1=1;plate heat 1;", 2, 0);
        faulty(";plate heat 1;", 2, 0);
        faulty("plate heat 1;plate heat 1;", 2, 13);
        faulty("plate heat 1;cake 1;plate", 2, 20);
        faulty("plate plate heat 1;", 2, 6);
    }

    private static void sizes() {
        edges.says(Edges.TERMS, "cake: a SIZE, 1 to 5, none told ahead, they come from the top on; up: it lies burnt side up.");
        for (String n : new String[] {"0", "6", "00", "000", "006", "10", "15", "51", "999"}) {
            faulty(HEAD + "cake " + n + ";", 3, 18);
            faulty(HEAD + "cake 1;cake " + n + " up;", 3, 25);
        }
        for (String n : new String[] {"1", "01", "001"}) {
            fine(HEAD + "cake " + n + ";", 2);
        }
        String five = "";
        for (int told = 1; told <= 5; told++) {
            five = five + "cake " + told + (told % 2 == 0 ? " up;" : ";");
            GriddleTurn x = Check.told(HEAD + five);
            due("how many", told, x.count(0));
            for (int i = 0; i < told; i++) {
                due(five + " size " + i, i + 1, x.cake(i, 0));
                due(five + " up " + i, i % 2, x.cake(i, 1));
            }
            for (int again = 1; again <= told; again++) {
                String text = HEAD + five + "cake ";
                faulty(text + again, 3, text.length());
            }
        }
        faulty(HEAD + five + "cake 6;", 3, (HEAD + five + "cake ").length());
        GriddleTurn ups = Check.told(HEAD + "cake 2 up up up;cake 1 up\nup;");
        due("up twice is up", 3, ups.lies(0) - 4);
        edges.says(Edges.TERMS, "Those told must be 1 to as many as there are, at the end of the text; "
                + "without any there is one of SIZE 1.");
        for (int set = 1; set < 32; set++) {
            String text = HEAD;
            for (int size = 5; size >= 1; size--) {
                text = text + ((set >> size - 1 & 1) != 0 ? "cake " + size + ";" : "");
            }
            if ((set & set + 1) == 0) {
                fine(text, 1 + Integer.bitCount(set));
            } else {
                faulty(text, 3, text.length());
                faulty(text + " \n ", 3, text.length() + 3);
                faulty(text + "habit:1;", 3, text.length() + 8);
            }
        }
        GriddleTurn one = Check.told("plate heat 1;habit:top;may:up=0;");
        due("count(0)", 1, one.count(0));
        due("cake(0, 0)", 1, one.cake(0, 0));
        due("cake(0, 1)", 0, one.cake(0, 1));
    }

    private static int kindOf(int b) {
        boolean token = b >= 'a' && b <= 'z' || b >= '0' && b <= '9' || ";:+-*()[]=<>".indexOf(b) >= 0;
        return token ? 2 : 1;
    }

    private static void tokens() {
        edges.says(Edges.TERMS, "between them blanks (10, 32): words (small letters), N (1 to 3 digits), "
                + "the signs ; : + - * ( ) [ ] = < >.");
        for (int b = 0; b < 256; b++) {
            String text = "plate heat 1;" + (char) b;
            if (b == 10 || b == 32) {
                fine(text, 1);
                fine((char) b + "plate" + (char) b + (char) b + "heat" + (char) b + "1" + (char) b + ";", 1);
            } else {
                faulty(text, kindOf(b), 13);
                faulty((char) b + "plate heat 1;", kindOf(b), 0);
                // behind a word: it goes on, or another token begins
                boolean letter = b >= 'a' && b <= 'z';
                faulty("plate" + (char) b, kindOf(b), letter ? 0 : 5);
            }
        }
        edges.says(Edges.TERMS, "TOKENS, as long as they go on");
        faulty("plateheat 1;", 2, 0);
        faulty("plate heatheat 1;", 2, 6);
        faulty("plate heat 1 2;", 2, 13);
        faulty("plate heat 12;", 3, 11);
        faulty("pla te heat 1;", 2, 0);
        fine("plate heat1;cake1up;cake2;", 3);
        faulty("plate heat1;cake1upup;", 2, 17);
        fine("plate heat1;may:if1=1then2else3end=2and4=4;", 2);
        faulty("plate heat1;may:1=1and1=1ornot1=1;", 2, 25);
        fine("plate heat1;may:1=1and1=1or not1=1;", 2);
        edges.says(Edges.TERMS, "1 no TOKEN begins so (4 digits and more: at their first)");
        fine("plate heat 1;habit:999;", 2);
        fine("plate heat 1;habit:000;", 2);
        for (String n : new String[] {"0000", "1000", "9999", "00001", "1234567890123456789012345678901234567890"}) {
            faulty("plate heat " + n + ";", 1, 11);
            faulty("plate heat 1;cake " + n + ";", 1, 18);
            faulty("plate heat 1;habit:1+" + n + ";", 1, 21);
            faulty("plate heat 1;habit:1+" + n, 1, 21);
        }
        faulty("plate heat 1;PLATE", 1, 13);
        faulty("plate heat 1;habit:top/2;", 1, 22);
        faulty("plate heat 1;may:1=1&2=2;", 1, 20);
    }

    /** Each word of a text, with a letter less, more or another one: a word still, which can't stand there. */
    private static void likeWords() {
        edges.says(Edges.TERMS, "2 it can't stand there");
        String[] tokens = ("plate heat 3 ; cake 2 up ; cake 1 ; may : not top = 1 and under < up or many = heat ; "
                + "habit : if right = 1 then top else right end ;").split(" ");
        String whole = String.join(" ", tokens);
        int at = 0;
        for (String word : tokens) {
            String rest = whole.substring(at + word.length());
            String[] like = Character.isLetter(word.charAt(0)) ? likes(word) : new String[0];
            for (String other : like) {
                faulty(whole.substring(0, at) + other + rest, 2, at);
                faulty(whole.substring(0, at) + other, 2, at);
            }
            at += word.length() + 1;
        }
        fine(whole, 5);
    }

    private static String[] likes(String word) {
        int last = word.length() - 1;
        return new String[] {word.substring(0, last), word.substring(1), word + word.charAt(last), word + word,
            word.charAt(0) + word, word + "s", word.substring(0, last) + "z", "z" + word.substring(1)};
    }

    private static void order() {
        edges.says(Edges.TERMS, "FAULTS, the first along the text, of one TOKEN the least kind");
        // of two tokens the first one counts, whatever its kind
        faulty("plate heat 10 ?", 3, 11);
        faulty("plate heat 1;heat ?", 2, 13);
        faulty("plate heat 1;cake 2;?", 1, 20);
        faulty("plate heat 1;cake 7;cake;", 3, 18);
        faulty("plate heat 1;habit:(((((((?", 4, 25);
        faulty("plate heat 1;habit:((((((( cake 0", 4, 25);
        faulty("plate heat 1;cake 3;may:1;", 2, 25);
        faulty("plate heat 1;cake 3;habit:(((((((1", 4, 32);
        faulty("plate heat 12;habit:(((((((1", 3, 11);
        // of one token the least kind: 1 ahead of 2, of 3, of 4, 2 ahead of 3 and of 4
        faulty("1000", 1, 0);
        faulty("plate 1000", 1, 6);
        faulty("plate heat 1000", 1, 11);
        faulty("plate heat 1;cake 1000", 1, 18);
        faulty("plate 10", 2, 6);
        faulty("plate heat 1;6", 2, 13);
        faulty("plate heat 1;cake 1 6", 2, 20);
        faulty("plate heat 1;habit:((((((?", 1, 25);
        faulty("plate heat 1;habit:((((((not", 2, 25);
        faulty("plate heat 1;habit:(((((([", 2, 25);
        faulty("plate heat 1;habit:((((((1(", 2, 26);
        faulty("plate heat 1;habit:((((((1 if", 2, 27);
        faulty("plate heat 1;may:[[[[[[1=1[", 2, 26);
        faulty("plate heat 1;may:[[[[[[1=1 not", 2, 27);
        // the end: 2 ahead of 3
        faulty("plate heat 1;cake 2", 2, 19);
        faulty("plate heat 1;cake 2;may:1=1", 2, 27);
        faulty("plate heat 1;cake 2;", 3, 20);
        edges.says(Edges.TERMS, "3 an N out of its bounds (a SIZE that was told); at the end (its place): a SIZE is missing.");
        faulty("plate heat 1;cake 2;cake 2;", 3, 25);
        faulty("plate heat 1;cake 1;habit:1;cake 001;", 3, 33);
        faulty("plate heat 1;cake 2;cake 3;", 3, 27);
        faulty("plate heat 1;cake 2;cake 3;\n\n", 3, 29);
        fine("plate heat 1;habit:999-000;may:999>5;", 3);
    }

    /** A text with all that can stand in it, cut behind each of its tokens. */
    private static void ends() {
        edges.says(Edges.TERMS, "2 it can't stand there (the end: the text's length;");
        String[] tokens = ("plate heat 3 ; cake 2 up ; cake 1 ; may : not [ top = 1 and 2 < ( up ) ] or "
                + "if up < 1 then ( 2 ) else many * 3 end > under + heat - 1 ; habit : right + if 1 = 1 then 2 "
                + "else 3 end ;").split(" ");
        String text = "";
        int lines = 0;
        int cakes = 0;
        for (int i = 0; i <= tokens.length; i++) {
            boolean whole = i > 0 && tokens[i - 1].equals(";");
            if (whole && cakes != 1) {
                fine(text, lines);
            } else {
                faulty(text, whole ? 3 : 2, text.length());
                faulty(text + "\n ", whole ? 3 : 2, text.length() + 2);
            }
            if (i < tokens.length) {
                text = text + (i > 0 ? " " : "") + tokens[i];
                lines += tokens[i].equals(";") ? 1 : 0;
                cakes += tokens[i].equals("cake") ? 1 : 0;
            }
        }
        faulty("", 2, 0);
        faulty(" ", 2, 1);
    }

    /** Behind a beginning just the told tokens can stand, all others are faults where they stand. */
    private static void stand(String begun, String can) {
        String[] all = ("plate heat cake up may habit if then else end not and or top under many right syrup a "
                + "1 ; : + - * ( ) [ ] = < >").split(" ");
        List<String> fit = Arrays.asList(can.split(" "));
        for (String token : all) {
            String text = begun + " " + token;
            GriddleTurn x = new GriddleTurn();
            int answer = Check.tell(x, text);
            boolean refused = answer == -32 && x.fault(1) == begun.length() + 1;
            due(shown(text), fit.contains(token) ? 0 : 1, refused ? 1 : 0);
        }
    }

    private static void standing() {
        String atoms = "1 ( if top under up heat ";
        String units = atoms + "not [ ";
        edges.says(Edges.TERMS, "LINE: cake N { up } | may : TRUTH | habit : SUM.");
        stand("", "plate");
        stand("plate", "heat");
        stand("plate heat", "1");
        stand("plate heat 1", ";");
        stand(HEAD, "cake may habit");
        stand(HEAD + "cake", "1");
        stand(HEAD + "cake 1", "up ;");
        stand(HEAD + "cake 1 up", "up ;");
        stand(HEAD + "cake 1;", "cake may habit");
        stand(HEAD + "may", ":");
        stand(HEAD + "habit", ":");
        edges.says(Edges.TERMS, "TRUTH: BOTH { or BOTH }; BOTH: UNIT { and UNIT }; UNIT: not UNIT, [ TRUTH ], "
                + "or SUM, one of = < >, SUM.");
        for (String begun : new String[] {"", "not", "[", "1=1 and", "1=1 or", "1=1 and not", "1=1 or ["}) {
            stand(HEAD + "may:" + begun, units + "many");
        }
        for (String sign : new String[] {"=", "<", ">"}) {
            stand(HEAD + "may:1" + sign, atoms + "many");
            stand(HEAD + "may:1" + sign + "1", "+ - * and or ;");
        }
        stand(HEAD + "may:1", "+ - * = < >");
        stand(HEAD + "may:not 1", "+ - * = < >");
        stand(HEAD + "may:not not 1=1", "+ - * and or ;");
        stand(HEAD + "may:[1", "+ - * = < >");
        stand(HEAD + "may:[1=1", "+ - * and or ]");
        stand(HEAD + "may:[1=1]", "and or ;");
        stand(HEAD + "may:[[1=1]", "and or ]");
        stand(HEAD + "may:[1=1] and 1=1", "+ - * and or ;");
        edges.says(Edges.TERMS, "SUM: TERM { + TERM | - TERM }; TERM: ATOM { * ATOM }; ATOM: N, ( SUM ), "
                + "if TRUTH then SUM else SUM end");
        for (String begun : new String[] {"(", "1+", "1-", "1*", "((", "if 1=1 then", "if 1=1 then 1 else"}) {
            stand(HEAD + "may:" + begun, atoms + "many");
            stand(HEAD + "habit:" + begun, atoms + "right");
        }
        stand(HEAD + "may:(1", "+ - * )");
        stand(HEAD + "may:(1)", "+ - * = < >");
        stand(HEAD + "may:1=(1)", "+ - * and or ;");
        stand(HEAD + "may:if", units + "many");
        stand(HEAD + "may:if 1=1", "+ - * and or then");
        stand(HEAD + "may:if 1=1 then 1", "+ - * else");
        stand(HEAD + "may:if 1=1 then 1 else 1", "+ - * end");
        stand(HEAD + "may:if 1=1 then 1 else 1 end", "+ - * = < >");
        stand(HEAD + "habit:", atoms + "right");
        for (String atom : new String[] {"1", "(1)", "top", "under", "up", "heat", "right", "if 1=1 then 1 else 1 end"}) {
            stand(HEAD + "habit:" + atom, "+ - * ;");
            stand(HEAD + "habit:(" + atom, "+ - * )");
            stand(HEAD + "habit:1*" + atom, "+ - * ;");
        }
        stand(HEAD + "habit:if", units + "right");
        stand(HEAD + "habit:if not", units + "right");
        stand(HEAD + "habit:if 1=1 or [", units + "right");
        stand(HEAD + "habit:if 1", "+ - * = < >");
        stand(HEAD + "habit:if 1=1", "+ - * and or then");
        edges.says(Edges.TERMS, "a word of the other law)");
        faulty(HEAD + "may:right=1;", 2, 17);
        faulty(HEAD + "may:many=right;", 2, 22);
        faulty(HEAD + "habit:many;", 2, 19);
        faulty(HEAD + "habit:if many=1 then 1 else 1 end;", 2, 22);
        // behind one law the other one has its own word again
        fine(HEAD + "may:many=1;habit:right;may:many=1;", 4);
        faulty(HEAD + "may:many=1;habit:right;may:right=1;", 2, 40);
        faulty(HEAD + "habit:right;may:many=1;habit:many;", 2, 42);
    }

    private static final String[] KINDS = {"not", "[", "(", "if"};

    /** Told kinds within one another, from the i-th on, as a UNIT or as a SUM; where the last begins is kept. */
    private static int lastBegins;

    private static void nest(StringBuilder to, int[] kinds, int i, boolean unit) {
        if (i == kinds.length) {
            to.append(unit ? "1=1" : "1");
            return;
        }
        lastBegins = to.length();
        String kind = KINDS[kinds[i]];
        to.append(kind).append(' ');
        if (kind.equals("not")) {
            nest(to, kinds, i + 1, true);
        } else if (kind.equals("[")) {
            nest(to, kinds, i + 1, true);
            to.append(']');
        } else {
            nest(to, kinds, i + 1, kind.equals("if"));
            to.append(kind.equals("(") ? ")" : " then 1 else 1 end").append(unit ? "=1" : "");
        }
    }

    private static GriddleTurn used = new GriddleTurn();
    private static int uses;

    private static GriddleTurn another() {
        uses++;
        if (uses % 40 == 0) {
            used = new GriddleTurn();
        }
        return used;
    }

    /** All ways so many kinds can stand within one another. */
    private static void nestAll(int[] kinds, int i, boolean unit) {
        if (i < kinds.length) {
            for (int kind = unit ? 0 : 2; kind < 4; kind++) {
                kinds[i] = kind;
                nestAll(kinds, i + 1, kind != 2);
            }
            return;
        }
        StringBuilder text = new StringBuilder(HEAD + "may:");
        nest(text, kinds, 0, true);
        GriddleTurn x = another();
        int answer = Check.tell(x, text.append(';').toString());
        due(shown(text.toString()), kinds.length > 6 ? -34 : 2, answer);
        due(shown(text.toString()) + " fault(1)", kinds.length > 6 ? lastBegins : -1, x.fault(1));
    }

    private static void within() {
        edges.says(Edges.TERMS, "At most six of not [ ( if within one another.");
        nestAll(new int[6], 0, true);
        edges.says(Edges.TERMS, "4 a seventh of not [ ( if.");
        nestAll(new int[7], 0, true);
        String six = "[".repeat(6) + "1=1" + "]".repeat(6);
        String sum = "(".repeat(6) + "1" + ")".repeat(6);
        fine(HEAD + "may:" + six + "and " + six + "or " + six + ";may:" + six + ";", 3);
        fine(HEAD + "habit:" + sum + "*" + sum + "+" + sum + ";habit:" + sum + ";", 3);
        fine(HEAD + "may:" + sum + "=" + sum + ";", 2);
        fine(HEAD + "may:not not not not not not 1=1 and not not not not not not 1=1;", 2);
        faulty(HEAD + "may:" + six + "and [" + six + "];", 4, 17 + six.length() + 10);
        faulty(HEAD + "habit:" + sum + "-(" + sum + ");", 4, 19 + sum.length() + 7);
        faulty(HEAD + "may:1=(" + sum + ");", 4, 25);
        // what stands behind a not is within it, both sides
        faulty(HEAD + "may:not 1=" + sum + ";", 4, 28);
        fine(HEAD + "may:not 1=1 and 1=" + sum + ";", 2);
        // within each part of an if
        String five = "(((((1)))))";
        fine(HEAD + "habit:if " + five + "=" + five + " then " + five + " else " + five + " end+" + sum + ";", 2);
        faulty(HEAD + "habit:if " + sum, 4, 27);
        faulty(HEAD + "habit:if 1=" + sum, 4, 29);
        faulty(HEAD + "habit:if 1=1 then " + sum, 4, 36);
        faulty(HEAD + "habit:if 1=1 then 1 else " + sum, 4, 43);
        fine(HEAD + "habit:if 1=1 then 1 else 1 end*" + sum + ";", 2);
        String ifs = "1";
        for (int i = 0; i < 6; i++) {
            ifs = "if 1=1 then 1 else " + ifs + " end";
        }
        fine(HEAD + "habit:" + ifs + ";", 2);
        faulty(HEAD + "habit:if 1=1 then 1 else " + ifs + " end;", 4, 19 + 6 * 19);
    }

    private static void striking() {
        edges.says(Edges.TERMS, "Later ones of may, habit strike.");
        due("may", 0, Check.told(HEAD + "may:1=2;may:1=1;").why(1));
        due("may", 2, Check.told(HEAD + "may:1=1;may:1=2;").why(1));
        due("may", 2, Check.told(HEAD + "may:1=2;may:1=1;cake 1;may:1=2;").why(1));
        due("habit", 0, Check.told(HEAD + "habit:1;habit:0;").habit());
        due("habit", 1, Check.told(HEAD + "habit:0;cake 1;habit:1;").habit());
        due("both", 1, Check.told(HEAD + "may:1=2;habit:0;habit:1;may:1=1;").habit());
        GriddleTurn long0 = Check.told(HEAD + "habit:1+1+1+1+1+1+1+1;habit:1;");
        due("a shorter one", 1, long0.habit());
        due("lines", 3, long0.count(5));
    }
}
