/** Boundary cases of "VARIABLES" and of promises 1 to 9, one test for each sentence that names one. */
final class EdgeValuesTest {
    private static final int LEAST = Integer.MIN_VALUE;
    private static final int MOST = Integer.MAX_VALUE;

    public static void main(String[] args) {
        Run.all(EdgeValuesTest.class);
    }

    private static int bits(float f) {
        return Float.floatToRawIntBits(f);
    }

    /** Each sort of VALUE in a .. e. */
    private static Run filled() {
        return new Run("number(1, 5)", "real(2, -1, 2)").text(3, "ab").list(4, 7, 8);
    }

    // ---- the paragraph "VARIABLES"

    static void variables0To7() {
        Run.holds("VARIABLES a .. h (0 .. 7) have a VALUE each");
        Run r = new Run().feed("or:5");
        String[] calls = {"none(", "number(", "real(", "list(", "text(", "item(", "of(", "shown(", "filter("};
        String[] behind = {")", ", 1)", ", 1, 2)", ", 1)", ")", ", 0, 1)", ", 0)", ", 0)", ")"};
        for (int i = 0; i < calls.length; i++) {
            for (int variable : new int[] {-1, 8, 9, LEAST, MOST}) r.refused(calls[i] + variable + behind[i], -1);
        }
        r.due("told(4)", 4).due("filter(7)", 1).feed("or:6").due("filter(0)", 1);
        r.due("of(7, 2)", 5).due("of(0, 2)", 6);
        r.due("number(0, 1)", 1).due("number(7, 2)", 1).due("of(0, 2)", 1).due("of(7, 2)", 2);
        r.due("real(0, 1, 2)", 1).due("real(7, 1, 2)", 1).due("text(0)", 2).due("text(7)", 2);
        r.due("list(0, 1)", 3).due("list(7, 1)", 3).due("item(0, 0, 3)", 0).due("item(7, 0, 4)", 0);
        r.shows(0, "3").shows(7, "4").due("none(0)", 4).due("none(7)", 4).due("of(0, 0)", 0).due("of(7, 0)", 0);
    }

    static void nothingAtFirst() {
        Run.holds("NOTHING (at first)");
        Run r = new Run();
        for (int v = 0; v < 8; v++) r.due("of(" + v + ", 0)", 0).shows(v, "");
        for (int v = 0; v < 8; v++) r.due("number(" + v + ", 1)", 0);
    }

    static void intsToAMillion() {
        Run.holds("an INT (-1000000 .. 1000000)");
        Run r = new Run();
        r.due("number(0, 1000000)", 0).refused("number(0, 1000001)", -2).due("of(0, 2)", 1000000);
        r.due("number(0, -1000000)", 1).refused("number(0, -1000001)", -2).due("of(0, 2)", -1000000);
        r.refused("number(0, " + MOST + ")", -2).refused("number(0, " + LEAST + ")", -2);
        r.due("number(0, 999999)", 1).due("number(0, -999999)", 1).due("number(0, 0)", 1).due("of(0, 2)", 0);
        r = new Run("list(0, 2)");
        r.due("item(0, 0, 1000000)", 0).refused("item(0, 0, 1000001)", -2);
        r.due("item(0, 1, -1000000)", 0).refused("item(0, 1, -1000001)", -2);
        r.refused("item(0, 0, " + MOST + ")", -2).refused("item(0, 1, " + LEAST + ")", -2);
        r.shows(0, "1000000,-1000000");
    }

    static void realsToAMillion() {
        Run.holds("a REAL: a float from -1000000 to 1000000, not -0");
        Run r = new Run();
        r.due("real(0, 1000000, 1)", 0).due("of(0, 2)", bits(1000000f));
        r.due("real(0, -1000000, 1)", 2).due("of(0, 2)", bits(-1000000f));
        r.due("real(0, 15999999, 16)", 2).due("of(0, 2)", bits(999999.9375f));
        r.due("real(0, -15999999, 16)", 2).due("of(0, 2)", bits(-999999.9375f));
        r.due("real(0, 0, -1)", 2).due("of(0, 2)", 0).shows(0, "0.000");
    }

    static void textsOf16Bytes() {
        Run.holds("a TEXT of 0 .. 16 bytes (1 .. 127)");
        Run r = new Run();
        r.due("text(0)", 0).due("of(0, 0)", 3).due("of(0, 2)", 0).shows(0, "");
        r.feed("0123456789abcdef").due("text(0)", 3).due("of(0, 2)", 16).shows(0, "0123456789abcdef");
        r.feed("0123456789abcdefg").refusedReading("text(0)", -2).shows(0, "0123456789abcdef");
        r.text(1, "\u0001\u007f").due("of(1, 2)", 2).shows(1, "\u0001\u007f");
        r.refused("feed(0)", -2).refused("feed(128)", -2);
    }

    static void listsOf6Ints() {
        Run.holds("a LIST of 0 .. 6 INTS");
        Run r = new Run();
        r.due("list(0, 0)", 0).due("of(0, 0)", 4).due("of(0, 2)", 0).refused("item(0, 0, 1)", -1);
        r.due("list(0, 6)", 4).due("of(0, 2)", 6).due("item(0, 5, 9)", 0).refused("item(0, 6, 9)", -1);
        r.shows(0, "0,0,0,0,0,9");
        r.refused("list(0, 7)", -2).refused("list(0, -1)", -2).shows(0, "0,0,0,0,0,9");
    }

    static void limited() {
        Run.holds("LIMITED: a float beyond becomes the nearer end, -0 becomes 0.");
        Run r = new Run();
        // 1000000.0625 is the next float
        r.due("real(0, 16000001, 16)", 0).due("of(0, 2)", bits(1000000f));
        r.due("real(0, -16000001, 16)", 2).due("of(0, 2)", bits(-1000000f));
        r.due("real(0, " + MOST + ", 1)", 2).due("of(0, 2)", bits(1000000f));
        r.due("real(0, " + LEAST + ", 1)", 2).due("of(0, 2)", bits(-1000000f));
        r.due("real(0, " + LEAST + ", -1)", 2).due("of(0, 2)", bits(1000000f));
        r.due("real(0, 0, " + LEAST + ")", 2).due("of(0, 2)", 0);
        r.due("real(0, -1, " + MOST + ")", 2).due("of(0, 2)", bits(-1f / 2147483648f));
    }

    static void nothingShown() {
        Run.holds("SHOWN, a VALUE is bytes: NOTHING none");
        filled().shows(0, "").due("none(1)", 1).shows(1, "").due("none(3)", 3).shows(3, "");
    }

    static void intsShown() {
        Run.holds("an INT its figures, - ahead, if it is below 0");
        int[] ints = {0, 1, -1, 9, 10, -9, -10, 99, 100, 999, 1000, 9999, 10000, 99999, 100000, 999999, 1000000,
            -999999, -1000000};
        Run r = new Run();
        for (int n : ints) r.due("number(0, " + n + ")", n == 0 ? 0 : 1).shows(0, "" + n);
    }

    static void realsShown() {
        Run.holds("a REAL f: - if f is below 0, the figures of its amount cast to an int, a point, three figures: the "
            + "amount less that int (as floats), times 1000, cast");
        Run r = new Run("real(0, 0, 1)");
        r.shows(0, "0.000");
        int[][] parts = {{-1, LEAST}, {1, LEAST}, {1, 1000}, {999, 1000000}, {99, 1000}, {1, 10}, {-9, 10}, {16777215, 16777216},
            {-1, 1}, {19, 2}, {-999, 100}, {10, 1}, {15999999, 16}, {1000000, 1}, {-1000000, 1}, {2, 3}};
        String[] shown = {"0.000", "-0.000", "0.001", "0.000", "0.099", "0.100", "-0.900", "0.999",
            "-1.000", "9.500", "-9.989", "10.000", "999999.937", "1000000.000", "-1000000.000", "0.666"};
        for (int i = 0; i < parts.length; i++) {
            r.due("real(0, " + parts[i][0] + ", " + parts[i][1] + ")", 2).shows(0, shown[i]);
        }
    }

    static void textsAndListsShown() {
        Run.holds("a TEXT itself; a LIST its INTS SHOWN, with , between.");
        Run r = new Run().text(0, "").shows(0, "").text(0, "<&\"`\\;").shows(0, "<&\"`\\;");
        r.list(0).shows(0, "").list(0, -5).shows(0, "-5").list(0, 0, 0).shows(0, "0,0");
        r.list(0, 1, -2, 3, -4, 5, -6).shows(0, "1,-2,3,-4,5,-6");
        r.list(0, -1000000, -1000000, -1000000, -1000000, -1000000, -1000000);
        r.due("of(0, 1)", 53).due("shown(0, 52)", '0').due("shown(0, 53)", -1);
    }

    // ---- the promises

    static void newObject() {
        Run.holds("`TemplatePress()`: No TEMPLATES, VARIABLES have NOTHING.");
        Run r = new Run();
        for (int k = 0; k < 6; k++) r.due("has(" + k + ", 0)", -3).due("has(" + k + ", 6)", -3);
        for (int v = 0; v < 8; v++) r.due("none(" + v + ")", 0);
        long[] told = {0, 0, 200, 0, 0, 0, 0, 0};
        for (int what = 0; what < 8; what++) r.due("told(" + what + ")", told[what]);
        for (int row = 0; row < 6; row++) r.due("get(" + row + ", 0)", Long.MIN_VALUE);
        r.page("").why("").due("undo()", -3).due("clear()", 0);
    }

    static void none() {
        Run.holds("A VARIABLE has NOTHING: the sort of VALUE (0 NOTHING, 1 INT, 2 REAL, 3 TEXT, 4 LIST) that it had. NONE.");
        Run r = filled();
        r.refused("none(8)", -1).refused("none(-1)", -1);
        for (int v = 0; v < 5; v++) r.due("none(" + v + ")", v).due("of(" + v + ", 0)", 0).due("none(" + v + ")", 0);
    }

    static void number() {
        Run.holds("`int number(int variable, int v)`: It has an INT: the sort it had. NONE; BAD.");
        Run r = filled();
        r.refused("number(8, 1000001)", -1).refused("number(-1, -1000001)", -1).refused("number(3, 1000001)", -2);
        for (int v = 0; v < 5; v++) r.due("number(" + v + ", " + v + ")", v).due("of(" + v + ", 0)", 1).due("of(" + v + ", 2)", v);
    }

    static void real() {
        Run.holds("It has a REAL: a as a float by b as a float, LIMITED: the sort it had. NONE; BAD: b is 0.");
        Run r = filled();
        r.refused("real(8, 1, 0)", -1).refused("real(-1, 1, 0)", -1).refused("real(1, 1, 0)", -2).refused("real(1, 0, 0)", -2);
        r.refused("real(3, " + LEAST + ", 0)", -2);
        for (int v = 0; v < 5; v++) {
            r.due("real(" + v + ", 7, 1)", v).due("of(" + v + ", 2)", bits(7f));
            r.due("real(" + v + ", 7, -1)", 2).due("of(" + v + ", 2)", bits(-7f));
        }
        // 16777217 is the first that is another number as a float
        r.due("real(0, 16777217, 17)", 2).due("of(0, 2)", bits(16777216f / 17f));
        r.due("real(0, 17, 16777217)", 2).due("of(0, 2)", bits(17f / 16777216f));
        r.due("real(0, " + LEAST + ", " + LEAST + ")", 2).due("of(0, 2)", bits(1f));
        r.due("real(0, " + MOST + ", " + LEAST + ")", 2).due("of(0, 2)", bits(-1f));
    }

    static void text() {
        Run.holds("It has a TEXT: THE TAPE's bytes: the sort it had. NONE (THE TAPE stays); BAD: these are more than 16.");
        Run r = filled().feed("0123456789abcdefg");
        r.refused("text(8)", -1).refused("text(-1)", -1).due("told(4)", 17);
        r.refusedReading("text(4)", -2).due("told(4)", 0).shows(4, "7,8");
        r.feed("0123456789abcdef");
        r.refused("text(8)", -1).due("told(4)", 16);
        r.due("text(4)", 4).due("told(4)", 0).shows(4, "0123456789abcdef");
        for (int v = 0; v < 4; v++) r.due("text(" + v + ")", v).due("of(" + v + ", 0)", 3).shows(v, "");
        StringBuilder most = new StringBuilder();
        for (int i = 0; i < 160; i++) most.append('x');
        r = new Run().feed(most.toString()).refusedReading("text(0)", -2).due("told(4)", 0).due("of(0, 0)", 0);
    }

    static void list() {
        Run.holds("It has a LIST of n INTS, all 0: the sort it had. NONE; BAD: n (0 .. 6).");
        Run r = filled();
        r.refused("list(8, 7)", -1).refused("list(-1, -1)", -1).refused("list(4, 7)", -2).refused("list(4, -1)", -2);
        r.refused("list(0, " + MOST + ")", -2).refused("list(0, " + LEAST + ")", -2);
        for (int v = 0; v < 5; v++) r.due("list(" + v + ", 6)", v).shows(v, "0,0,0,0,0,0");
        r.list(0, 1, 2, 3, 4, 5, 6).due("list(0, 3)", 4).shows(0, "0,0,0").due("list(0, 6)", 4).shows(0, "0,0,0,0,0,0");
        r.due("list(0, 0)", 4).shows(0, "").text(0, "abc").due("list(0, 2)", 3).shows(0, "0,0");
    }

    static void item() {
        Run.holds("The i-th INT of its LIST becomes v: what it was. NONE: variable, i; STATE: it has no LIST (ahead of i); "
            + "BAD: v.");
        Run r = filled();
        r.refused("item(8, 9, 1000001)", -1).refused("item(-1, 0, 0)", -1);
        for (int v = 0; v < 4; v++) r.refused("item(" + v + ", -1, 1000001)", -3).refused("item(" + v + ", 0, 1)", -3);
        r.refused("item(4, 2, 1)", -1).refused("item(4, -1, 1)", -1).refused("item(4, 2, 1000001)", -1);
        r.refused("item(4, " + LEAST + ", 1)", -1).refused("item(4, " + MOST + ", 1)", -1);
        r.refused("item(4, 1, 1000001)", -2).refused("item(4, 0, -1000001)", -2);
        r.due("item(4, 0, 1)", 7).due("item(4, 1, 2)", 8).due("item(4, 1, 3)", 2).shows(4, "1,3");
    }

    static void of() {
        Run.holds("Of a VARIABLE what 0 its sort, 1 how many bytes it has SHOWN, 2 an INT itself, a REAL's bits as a float, "
            + "how many a TEXT or LIST has, 0 of NOTHING, 3 whether it is TRUE. NONE: variable, what.");
        Run r = filled();
        long[][] want = {{0, 0, 0, 0}, {1, 1, 5, 1}, {2, 6, bits(-0.5f), 1}, {3, 2, 2, 1}, {4, 3, 2, 1}};
        for (int v = 0; v < 5; v++) {
            for (int what = 0; what < 4; what++) r.refused("of(" + v + ", " + what + ")", want[v][what]);
            r.refused("of(" + v + ", 4)", -1).refused("of(" + v + ", -1)", -1);
        }
        r.refused("of(8, 0)", -1).refused("of(-1, 3)", -1).refused("of(0, " + LEAST + ")", -1).refused("of(0, " + MOST + ")", -1);
        r = new Run("number(0, 0)", "real(1, 0, 1)", "text(2)", "list(3, 0)");
        for (int v = 0; v < 4; v++) r.due("of(" + v + ", 0)", v + 1).due("of(" + v + ", 2)", 0).due("of(" + v + ", 3)", 0);
        r = new Run("number(0, -1)", "real(1, 1, " + LEAST + ")", "feed(1)", "text(2)", "list(3, 1)");
        for (int v = 0; v < 4; v++) r.due("of(" + v + ", 3)", 1);
    }

    static void shown() {
        Run.holds("Byte i of a VARIABLE SHOWN. NONE: variable, i.");
        Run r = filled();
        r.refused("shown(8, 0)", -1).refused("shown(-1, 0)", -1).refused("shown(0, 0)", -1);
        String[] bytes = {"", "5", "-0.500", "ab", "7,8"};
        for (int v = 0; v < 5; v++) {
            int n = bytes[v].length();
            if (n > 0) r.refused("shown(" + v + ", 0)", bytes[v].charAt(0)).refused("shown(" + v + ", " + (n - 1) + ")", bytes[v].charAt(n - 1));
            r.refused("shown(" + v + ", " + n + ")", -1).refused("shown(" + v + ", -1)", -1);
            r.refused("shown(" + v + ", " + MOST + ")", -1).refused("shown(" + v + ", " + LEAST + ")", -1);
        }
    }
}
