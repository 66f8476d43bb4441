/** Counts answers that are not the ones due; a test ends by it with exit code 1 if there were some. */
final class Check {
    private final String test;
    private int looked;
    private int wrong;

    Check(String test) {
        this.test = test;
    }

    void due(String call, long want, long got) {
        looked++;
        if (got != want) {
            wrong++;
            if (wrong <= 40) {
                System.out.println(test + ": " + call + " answered " + got + ", due is " + want);
            }
        }
    }

    boolean isFine() {
        return wrong == 0;
    }

    void end() {
        System.out.println(test + ": " + (looked - wrong) + " of " + looked + " answers as due");
        if (wrong != 0 || looked == 0) {
            System.exit(1);
        }
    }

    /** Feeds a text and has it read: what plate() answers. */
    static int tell(GriddleTurn x, String text) {
        int n = text.length();
        for (int at = 0; at < n; at += 20) {
            x.feed(four(text, at), four(text, at + 4), four(text, at + 8), four(text, at + 12), four(text, at + 16));
        }
        return x.plate(n);
    }

    static GriddleTurn told(String text) {
        GriddleTurn x = new GriddleTurn();
        if (tell(x, text) < 0) {
            throw new IllegalStateException("refused: " + text);
        }
        return x;
    }

    static int four(String text, int at) {
        int v = 0;
        for (int i = at; i < at + 4; i++) {
            v = v << 8 | (i < text.length() ? text.charAt(i) & 255 : ' ');
        }
        return v;
    }

    static void fillTray(GriddleTurn x, int tray, int sort, long... numbers) {
        x.numbers(tray, sort, numbers.length);
        for (int i = 0; i < numbers.length; i++) {
            x.write(tray, i, numbers[i]);
        }
    }
}
