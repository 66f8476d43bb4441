/** Promises 1 to 8: a new object, the tape, texts and their faults, how it lies, what a turn would bring. */
public final class PlateTest {
    private static final Check CHECK = new Check("PlateTest");

    public static void main(String[] args) {
        newObject();
        tape();
        wholeTexts();
        faults();
        faultsStay();
        cakes();
        laws();
        byTurns();
        CHECK.end();
    }

    private static void due(String call, long want, long got) {
        CHECK.due(call, want, got);
    }

    private static void newObject() {
        GriddleTurn x = new GriddleTurn();
        int[] counts = {1, 0, 0, 0, 0, 0, -1};
        for (int what = 0; what < counts.length; what++) {
            due("new count(" + what + ")", counts[what], x.count(what));
        }
        due("new count(-1)", -1, x.count(-1));
        due("new cake(0, 0)", 1, x.cake(0, 0));
        due("new cake(0, 1)", 0, x.cake(0, 1));
        due("new fault(0)", 0, x.fault(0));
        due("new fault(1)", -1, x.fault(1));
        due("new fault(2)", -1, x.fault(2));
        due("new fault(-1)", -1, x.fault(-1));
        due("new habit()", 1, x.habit());
    }

    private static void tape() {
        GriddleTurn x = new GriddleTurn();
        for (int i = 1; i <= 45; i++) {
            due("feed " + i, 20L * i, x.feed(0x20202020, 0x20202020, 0x20202020, 0x20202020, 0x20202020));
        }
        due("46th feed", -5, x.feed(1, 2, 3, 4, 5));
        due("count(4)", 900, x.count(4));
        due("plate(901)", -3, x.plate(901));
        due("plate(-1)", -3, x.plate(-1));
        due("tape stays", 900, x.count(4));
        due("not read, no fault", 0, x.fault(0));
        due("plate(900) of blanks", -32, x.plate(900));
        due("fault(1)", 900, x.fault(1));
        due("tape is empty", 0, x.count(4));
        due("feed again", 20, x.feed(0, 0, 0, 0, 0));
        due("highest byte first", -31, x.plate(20));
        due("of no token", 0, x.fault(1));
        due("plate(0)", -32, x.plate(0));
        due("plate(0) place", 0, x.fault(1));
        // only the first n bytes count, and the rest is gone
        x.feed(0x706c6174, 0x65206865, 0x61742037, 0x3b202020, 0x3f3f3f3f);
        due("plate(13)", 1, x.plate(13));
        due("heat", 7, x.count(1));
        due("lines", 1, x.count(5));
        due("tape", 0, x.count(4));
    }

    private static void text(String text, int lines) {
        GriddleTurn x = new GriddleTurn();
        due(text, lines, Check.tell(x, text));
        if (lines >= 0) {
            due(text + " lines", lines, x.count(5));
            due(text + " fault", 0, x.fault(0));
            due(text + " place", -1, x.fault(1));
        }
    }

    private static void wholeTexts() {
        text("plate heat 0;", 1);
        text("plate\nheat\n9\n;\n\n", 1);
        text("plate heat 009;", 1);
        text("plateheat 1;", -32);
        text("plate heat1;cake1up;cake2;", 3);
        text("plate heat 1;cake 1 up up;", 2);
        text("plate heat 1;cake 5;cake 4;cake 3;cake 2;cake 1;", 6);
        text("plate heat 1;cake 2;habit:1;cake 1;may:1=1;habit:2;may:1=2;", 7);
        text("plate heat 1;may:[[[[[[1=1]]]]]];", 2);
        text("plate heat 1;may:not[not[not(1)=1]]and[[[[[[1=1]]]]]]or not not not not not not 1=1;", 2);
        text("plate heat 1;habit:((((((1))))))*((((((2))))))+if[[[[[1=1]]]]]then(((((1)))))else(((((2)))))end;", 2);
        text("plate heat 1;may:if many>1 or top=2 then under else up+heat end*999<000 and 1=1;", 2);
        text("plate heat 1;habit:right*top-under+up*heat;", 2);
    }

    private static void fault(String text, int kind, int place) {
        GriddleTurn x = new GriddleTurn();
        due(text, -30 - kind, Check.tell(x, text));
        due(text + " fault(0)", kind, x.fault(0));
        due(text + " fault(1)", place, x.fault(1));
    }

    private static void faults() {
        fault("", 2, 0);
        fault("   ", 2, 3);
        fault("Plate heat 1;", 1, 0);
        fault("plate heat 1;\t", 1, 13);
        fault("plate heat 1;\u00e9", 1, 13);
        fault("plate heat 1;cake 1;\u0000", 1, 20);
        fault("plate heat 1000;", 1, 11);
        fault("plate heat 99999999999999999999;", 1, 11);
        fault("plate heat 1;cake 1;may:0001=1;", 1, 24);
        fault("heat 1;", 2, 0);
        fault("plate 1;", 2, 6);
        fault("plate heat;", 2, 10);
        fault("plate heat 1 1;", 2, 13);
        fault("plate heat 10", 3, 11);
        fault("plate heat 999?", 3, 11);
        fault("plate heat 1;;", 2, 13);
        fault("plate heat 1;cake 1 1;", 2, 20);
        fault("plate heat 1;cake up;", 2, 18);
        fault("plate heat 1;cake 1 up 1;", 2, 23);
        fault("plate heat 1;cake 1;plate heat 1;", 2, 20);
        fault("plate heat 1;cake 0 ?", 3, 18);
        fault("plate heat 1;cake 6", 3, 18);
        fault("plate heat 1;cake 3;cake 3;", 3, 25);
        fault("plate heat 1;cake 5;cake 4;cake 3;cake 2;cake 1;cake 1;", 3, 53);
        fault("plate heat 1;cake 5;cake 4;cake 3;cake 2;cake 1;cake 6;", 3, 53);
        fault("plate heat 1;cake 2;", 3, 20);
        fault("plate heat 1;cake 2;  \n", 3, 23);
        fault("plate heat 1;cake 2", 2, 19);
        fault("plate heat 1;cake 1;cake 3;cake 4;", 3, 34);
        fault("plate heat 1;may:many;", 2, 21);
        fault("plate heat 1;may:many=right;", 2, 22);
        fault("plate heat 1;habit:many;", 2, 19);
        fault("plate heat 1;habit:1=1;", 2, 20);
        fault("plate heat 1;habit:[1];", 2, 19);
        fault("plate heat 1;habit:not 1;", 2, 19);
        fault("plate heat 1;habit:if 1 then 1 else 1 end;", 2, 24);
        fault("plate heat 1;habit:if 1=1 then 1 else 1;", 2, 39);
        fault("plate heat 1;habit:if 1=1 then 1 end;", 2, 33);
        fault("plate heat 1;habit:-1;", 2, 19);
        fault("plate heat 1;habit:1+;", 2, 21);
        fault("plate heat 1;habit:1**1;", 2, 21);
        fault("plate heat 1;habit:cake;", 2, 19);
        fault("plate heat 1;habit:();", 2, 20);
        fault("plate heat 1;habit:(1];", 2, 21);
        fault("plate heat 1;may:(1=1);", 2, 19);
        fault("plate heat 1;may:[1=1);", 2, 21);
        fault("plate heat 1;may:1=1=1;", 2, 20);
        fault("plate heat 1;may:1=1 and or 1=1;", 2, 25);
        fault("plate heat 1;may:not;", 2, 20);
        fault("plate heat 1;may", 2, 16);
        fault("plate heat 1;may:", 2, 17);
        fault("plate heat 1;may:[[[[[[[1=1]]]]]]];", 4, 23);
        fault("plate heat 1;may:not[not[not(if 1=1 then 1 else 1 end)=1]];", 4, 29);
        fault("plate heat 1;may:not[not[not((if 1=1 then 1 else 1 end))=1]];", 4, 29);
        fault("plate heat 1;habit:((((((1 (;", 2, 27);
        fault("plate heat 1;habit:((((((if;", 4, 25);
        fault("plate heat 1;habit:((((((1+1)*2-(;", 2, 33);
        fault("plate heat 1;habit:((((((1+1)*2-((;", 4, 33);
    }

    private static void faultsStay() {
        GriddleTurn x = Check.told("plate heat 3;cake 2 up;cake 1;habit:2;");
        x.turn(2);
        due("fault", -33, Check.tell(x, "plate heat 1;cake 2;"));
        due("heat stays", 3, x.count(1));
        due("work stays", 3, x.count(2));
        due("undoable stays", 1, x.count(3));
        due("lines stay", 4, x.count(5));
        due("stack stays", 2, x.lies(0));
        due("plate", 1, Check.tell(x, "plate heat 5;"));
        due("fault is gone", 0, x.fault(0));
        due("place is gone", -1, x.fault(1));
        due("work is 0", 0, x.count(2));
        due("nothing undoable", 0, x.count(3));
        due("undo", -3, x.undo(1));
        due("one cake", 1, x.count(0));
        due("law is gone", 1, x.habit());
    }

    private static void cakes() {
        GriddleTurn x = Check.told("plate heat 1;cake 4 up;cake 2;cake 1 up;cake 3;");
        int[] sizes = {4, 2, 1, 3};
        int[] ups = {1, 0, 1, 0};
        for (int i = 0; i < 4; i++) {
            due("size " + i, sizes[i], x.cake(i, 0));
            due("up " + i, ups[i], x.cake(i, 1));
        }
        due("cake(4, 0)", -2, x.cake(4, 0));
        due("cake(-1, 0)", -2, x.cake(-1, 0));
        due("cake(0, -1)", -2, x.cake(0, -1));
        due("cake(0, 2)", -2, x.cake(0, 2));
        due("cake(9, 9)", -2, x.cake(Integer.MIN_VALUE, Integer.MAX_VALUE));
    }

    /** How many habit turns of four pancakes by a sum, all lying right but the topmost being up. */
    private static void sum(String sum, int heat, int want) {
        GriddleTurn x = Check.told("plate heat " + heat + ";cake 1 up;cake 2;cake 3;cake 4;habit:" + sum + ";");
        due(sum, want, x.habit());
    }

    private static void truth(String truth, int k, int want) {
        GriddleTurn x = Check.told("plate heat 6;cake 2 up;cake 1;cake 3;may:" + truth + ";");
        due(truth + " " + k, want, x.why(k));
    }

    private static void laws() {
        GriddleTurn free = Check.told("plate heat 1;cake 2;cake 1;");
        due("why(0)", 1, free.why(0));
        due("why(1)", 0, free.why(1));
        due("why(2)", 0, free.why(2));
        due("why(3)", 1, free.why(3));
        due("why(-5)", 1, free.why(Integer.MIN_VALUE));
        sum("top", 0, 1);
        sum("under", 0, 4);
        sum("up", 0, 1);
        sum("right", 0, 3);
        sum("heat", 9, 4);
        sum("heat", 5, 0);
        sum("7", 0, 2);
        sum("0-1", 0, 4);
        sum("0-5", 0, 0);
        sum("0-6", 0, 4);
        sum("2+3*4-1", 0, 3);
        sum("9-3-2", 0, 4);
        sum("9-(3-2)", 0, 3);
        sum("999*999*999", 0, 0);
        sum("999*999*999+1", 0, 0);
        sum("1+999*999*999-3", 0, 2);
        sum("0-999*999*999-7+4", 0, 4);
        sum("(0-999)*999*999*(0-1)-1", 0, 4);
        sum("if 1=1 then 3 else 2 end", 0, 3);
        sum("if 1>1 then 3 else 2 end", 0, 2);
        sum("if not 1<1 and 1=1 or 1=2 then 3 else 2 end*3", 0, 4);
        truth("many=2", 2, 0);
        truth("many=2", 1, 2);
        truth("many=9", 4, 1);
        truth("under=0", 3, 0);
        truth("under=0", 2, 2);
        truth("under=3", 2, 0);
        truth("under=1", 1, 0);
        truth("top=2", 1, 0);
        truth("up=1", 1, 0);
        truth("heat=6", 1, 0);
        truth("heat<6", 1, 2);
        truth("heat>5", 1, 0);
        truth("1=1 or 1=1 and 1=2", 1, 0);
        truth("[1=1 or 1=1] and 1=2", 1, 2);
        truth("not 1=2 and 1=2", 1, 2);
        truth("not [1=2 and 1=2]", 1, 0);
        truth("not not 1=2", 1, 2);
        String deep = "1";
        for (int i = 0; i < 6; i++) {
            deep = "if 1=2 or 1=1 and 0<0+1*" + deep + " then 1 else 2 end";
        }
        truth("1=2 or 1=1 and 0<0+1*" + deep, 1, 0);
        truth("1=2 or 1=1 and 1<0+1*" + deep, 1, 2);
        // a later law strikes the earlier one
        GriddleTurn x = Check.told("plate heat 0;may:1=2;habit:0;cake 1;may:1=1;habit:1;");
        due("later may", 0, x.why(1));
        due("later habit", 1, x.habit());
        // habit turns none, if the law may forbids it
        x = Check.told("plate heat 0;cake 1;cake 2;may:many=1;habit:2;");
        due("forbidden habit", 0, x.habit());
        x = Check.told("plate heat 0;cake 1;cake 2;may:many=2;");
        due("habit of its own", 2, x.habit());
        x = Check.told("plate heat 0;cake 1;cake 2 up;may:many=2;");
        due("habit of its own forbidden", 0, x.habit());
        x = Check.told("plate heat 0;cake 2;cake 1;cake 3;");
        due("one more than right", 2, x.habit());
    }

    private static void byTurns() {
        GriddleTurn x = Check.told("plate heat 1;cake 2;cake 3 up;cake 1;may:not many=1;");
        due("by(1, 0)", -5, x.by(1, 0));
        due("by(1, 4)", -2, x.by(1, 4));
        due("by(1, -1)", -2, x.by(1, -1));
        due("by(4, 0)", -5, x.by(4, 0));
        due("by(0, 0)", -5, x.by(0, 0));
        // 3, 2 up, 1: the fifth order (from 0 on) of three
        due("by(2, 0)", 5 * 8 + 2, x.by(2, 0));
        due("by(2, 1)", 0, x.by(2, 1));
        due("by(2, 2)", 3, x.by(2, 2));
        due("by(2, 3)", 5, x.by(2, 3));
        // 1 up, 3, 2 up
        due("by(3, 0)", 1 * 8 + 5, x.by(3, 0));
        due("by(3, 3)", 6, x.by(3, 3));
        due("nothing changed", 3 * 8 + 2, x.lies(0));
        due("no work", 0, x.count(2));
        GriddleTurn y = Check.told("plate heat 1;cake 2 up;cake 1 up;");
        due("all right then", 2, y.by(2, 1));
        due("number 0 then", 0, y.by(2, 0));
    }
}
