/** Boundary cases of "ROWS" and of promises 22 to 28, one test for each sentence that names one. */
final class EdgeRowsTest {
    private static final int LEAST = Integer.MIN_VALUE;
    private static final int MOST = Integer.MAX_VALUE;
    private static final long NO = Long.MIN_VALUE;

    public static void main(String[] args) {
        Run.all(EdgeRowsTest.class);
    }

    private static int bits(long v) {
        return Float.floatToRawIntBits((float) v);
    }

    private static Run filled(Run r, int row, int sort, long... items) {
        r.due("row(" + row + ", " + sort + ", " + items.length + ")", 1);
        for (int i = 0; i < items.length; i++) r.due("set(" + row + ", " + i + ", " + items[i] + ")", 1);
        return r;
    }

    /** All places of a ROW, and none behind them; of floats their bits. */
    private static Run items(Run r, int row, long... items) {
        for (int i = 0; i < items.length; i++) r.due("get(" + row + ", " + i + ")", items[i]);
        return r.due("get(" + row + ", " + items.length + ")", NO);
    }

    private static Run paged(String page) {
        return new Run().templates(page).due("press(0)", page.length());
    }

    // ---- the paragraph "ROWS"

    static void rows0To5() {
        Run.holds("ROWS 0 .. 5 hold nothing (at first) or a row of a sort: 0 bytes, 1 ints, 2 floats; 0 .. 60 of them.");
        Run r = new Run();
        for (int row = 0; row < 6; row++) r.due("get(" + row + ", 0)", NO).refused("set(" + row + ", 0, 1)", -11);
        for (int row : new int[] {-1, 6, LEAST, MOST}) {
            r.refused("row(" + row + ", 0, 1)", -1).refused("set(" + row + ", 0, 1)", -1).refused("get(" + row + ", 0)", NO);
            r.refused("move(" + row + ", 0, 0, 0, 0)", -1).refused("move(0, 0, " + row + ", 0, 0)", -1);
            r.refused("twin(" + row + ", 0)", -1).refused("twin(0, " + row + ")", -1);
            r.refused("lay(" + row + ", 0)", -1).refused("judge(" + row + ", 0)", -1);
        }
        for (int row = 0; row < 6; row++) r.due("row(" + row + ", " + row % 3 + ", 1)", 1).due("set(" + row + ", 0, 200)", 1);
        for (int row = 0; row < 6; row++) items(r, row, row % 3 == 0 ? -56 : row % 3 == 1 ? 200 : bits(200));
        for (int sort = 0; sort < 3; sort++) {
            r.due("row(0, " + sort + ", 60)", 1).due("get(0, 59)", 0).due("get(0, 60)", NO).due("row(0, " + sort + ", 0)", 1).due("get(0, 0)", NO);
        }
        for (int sort : new int[] {-1, 3, LEAST, MOST}) r.refused("row(0, " + sort + ", 1)", -1);
        for (int n : new int[] {61, MOST}) r.refused("row(1, 0, " + n + ")", -2);
        for (int n : new int[] {-1, LEAST}) r.refused("row(1, 0, " + n + ")", -14);
        items(r, 1, 200);
    }

    static void nothing() {
        Run.holds("NOTHING (-11): there is none");
        Run r = filled(paged("ab"), 0, 0, 1, 2);
        r.refused("set(1, 0, 1)", -11).refused("set(1, -1, 1)", -11).refused("move(1, 0, 0, 0, 1)", -11).refused("move(0, 0, 1, 0, 1)", -11);
        r.refused("move(1, 0, 1, 0, 0)", -11).refused("move(0, -1, 1, -1, -1)", -11).refused("twin(1, 0)", -11).refused("twin(1, 1)", -11);
        r.refused("lay(1, 0)", -11).refused("lay(1, -1)", -11).refused("judge(1, 0)", -11).refused("judge(1, -1)", -11).refused("get(1, 0)", NO);
        // a row of 0 places is there
        r.due("row(1, 0, 0)", 1).refused("set(1, 0, 1)", -13).due("move(1, 0, 0, 0, 0)", 0).due("twin(1, 2)", 0).refused("lay(1, 0)", -13);
        r.due("judge(1, 0)", 100).refused("get(1, 0)", NO).due("twin(2, 2)", 0);
    }

    static void cast() {
        Run.holds("CAST (-12): of unlike sorts");
        Run r = new Run();
        for (int row = 0; row < 3; row++) filled(r, row, row, 1, 2);
        for (int row = 0; row < 3; row++) filled(r, row + 3, row, 7, 8);
        for (int row = 0; row < 3; row++) {
            for (int other = 3; other < 6; other++) {
                if (row == other - 3) continue;
                r.refused("move(" + row + ", 0, " + other + ", 0, 1)", -12).refused("move(" + row + ", 0, " + other + ", 0, 0)", -12);
                r.refused("move(" + row + ", -1, " + other + ", 9, 70)", -12);
            }
        }
        for (int row = 0; row < 3; row++) r.due("move(" + row + ", 0, " + (row + 3) + ", 1, 1)", 1);
        items(r, 3, 7, 1);
        items(r, 4, 7, 1);
        items(r, 5, bits(7), bits(1));
    }

    static void beyond() {
        Run.holds("BEYOND (-13): no such place");
        Run r = filled(paged("ab"), 0, 1, 1, 2);
        r.refused("set(0, 2, 9)", -13).refused("set(0, -1, 9)", -13).refused("set(0, " + LEAST + ", 9)", -13).refused("set(0, " + MOST + ", 9)", -13);
        r.refused("move(0, 2, 0, 0, 1)", -13).refused("lay(0, 2)", -13).refused("lay(0, -1)", -13);
        r.due("set(0, 1, 9)", 1).due("set(0, 0, 8)", 1);
        items(r, 0, 8, 9);
    }

    static void below() {
        Run.holds("BELOW (-14): a size below 0.");
        Run r = filled(new Run(), 0, 2, 1, 2);
        r.refused("row(0, 1, -1)", -14).refused("row(0, 1, " + LEAST + ")", -14).refused("row(1, 1, -1)", -14).refused("set(1, 0, 0)", -11);
        items(r, 0, bits(1), bits(2)).due("row(0, 1, 0)", 1);
    }

    static void laid() {
        Run.holds("LAID into a ROW from a place on: bytes of THE PAGE, until a place isn't there.");
        Run r = filled(paged("abc"), 0, 0, 1, 2, 3, 4, 5);
        r.due("lay(0, 0)", 3);
        items(r, 0, 'a', 'b', 'c', 4, 5).due("lay(0, 2)", 3);
        items(r, 0, 'a', 'b', 'a', 'b', 'c').due("lay(0, 3)", -13);
        items(r, 0, 'a', 'b', 'a', 'a', 'b').due("lay(0, 4)", -13);
        items(r, 0, 'a', 'b', 'a', 'a', 'a').refused("lay(0, 5)", -13).refused("lay(0, 6)", -13).refused("lay(0, -1)", -13);
    }

    static void judged() {
        Run.holds("JUDGED: the first byte of THE PAGE that is not what the ROW has there (cast to an int), from a place on; -5: none; 100 "
            + "and how many were looked at, if the row ends ahead of that (or the place is below 0).");
        for (int sort = 0; sort < 3; sort++) {
            Run r = filled(paged("abc"), 0, sort, 'a', 'b', 'c', 'a', 'b', 'c', 'a', 'b');
            r.refused("judge(0, 0)", -5).refused("judge(0, 3)", -5).refused("judge(0, 1)", 0).refused("judge(0, 2)", 0);
            r.refused("judge(0, 5)", 0).refused("judge(0, 6)", 102).refused("judge(0, 7)", 0).refused("judge(0, 8)", 100).refused("judge(0, 9)", 100);
            r.refused("judge(0, -1)", 100).refused("judge(0, " + LEAST + ")", 100).refused("judge(0, " + MOST + ")", 100);
            r.due("set(0, 2, 99)", 1).due("judge(0, 0)", -5).due("set(0, 2, 98)", 1).due("judge(0, 0)", 2).due("set(0, 1, 99)", 1);
            r.due("judge(0, 0)", 1).due("set(0, 0, -97)", 1).due("judge(0, 0)", 0);
            // just as long as THE PAGE, and one shorter
            r = filled(paged("abc"), 0, sort, 'a', 'b', 'c').due("judge(0, 0)", -5);
            r = filled(paged("abc"), 0, sort, 'a', 'b').due("judge(0, 0)", 102).due("judge(0, 1)", 0);
            r = filled(paged("abc"), 0, sort, 'a').due("judge(0, 0)", 101).due("judge(0, 1)", 100);
            r = filled(paged("abc"), 0, sort).due("judge(0, 0)", 100);
        }
        // beyond what an int has
        Run r = filled(paged("a"), 0, 2, 97 + (1L << 32), Long.MAX_VALUE, Long.MIN_VALUE, 97);
        r.due("judge(0, 0)", 0).due("judge(0, 1)", 0).due("judge(0, 2)", 0).due("judge(0, 3)", -5);
        r = filled(paged("a"), 0, 1, 97 + (1L << 32), 97 + 256).due("judge(0, 0)", -5).due("judge(0, 1)", 0);
        r = filled(paged("a"), 0, 0, 97 + (1L << 32), 97 + 256, 97 + 128).due("judge(0, 0)", -5).due("judge(0, 1)", -5).due("judge(0, 2)", 0);
        // as many as a ROW can have
        r = paged("x".repeat(61)).due("row(0, 0, 60)", 1).due("lay(0, 0)", -13).due("judge(0, 0)", 160).due("judge(0, 1)", 159);
        r = paged("x".repeat(60)).due("row(0, 0, 60)", 1).due("lay(0, 0)", 60).due("judge(0, 0)", -5).due("set(0, 59, 1)", 1).due("judge(0, 0)", 59);
    }

    static void emptyPage() {
        Run.holds("judge() of an empty PAGE is -5, whatever the place.");
        Run r = filled(new Run(), 0, 0, 1, 2);
        for (int i : new int[] {0, 1, 2, 3, -1, LEAST, MOST}) r.refused("judge(0, " + i + ")", -5);
        r.due("row(1, 2, 0)", 1).due("judge(1, 0)", -5).due("judge(1, -1)", -5).due("judge(1, 1)", -5);
        r.refused("judge(2, 0)", -11).refused("judge(6, 0)", -1);
        r.templates("x", "").due("press(0)", 1).due("judge(0, 0)", 0).due("press(1)", 0).due("judge(0, 0)", -5).due("judge(0, -1)", -5);
    }

    // ---- the promises

    static void row() {
        Run.holds("A ROW becomes one of a sort, n items, all 0: 1. NONE: row, sort; BAD: n above 60; BELOW.");
        Run r = new Run();
        r.refused("row(6, 3, 61)", -1).refused("row(0, 3, 61)", -1).refused("row(0, 3, -1)", -1).refused("row(-1, 0, -1)", -1);
        r.refused("row(0, 0, 61)", -2).refused("row(0, 0, -1)", -14);
        for (int sort = 0; sort < 3; sort++) {
            for (int next = 0; next < 3; next++) {
                filled(r, 0, sort, 7, 8, 9).due("row(0, " + next + ", 4)", 1);
                items(r, 0, 0, 0, 0, 0).due("row(0, " + sort + ", 2)", 1);
                items(r, 0, 0, 0);
            }
        }
    }

    static void set() {
        Run.holds("Place i of a ROW becomes v (of bytes, ints: lowest bits; of floats: v as a float): 1. NONE; NOTHING; BEYOND.");
        Run r = new Run("row(0, 0, 2)", "row(1, 1, 2)", "row(2, 2, 2)");
        r.refused("set(6, 2, 1)", -1).refused("set(3, 2, 1)", -11).refused("set(0, 2, 1)", -13).refused("set(0, -1, 1)", -13);
        long[] all = {0, 1, -1, 127, 128, -128, -129, 255, 256, MOST, MOST + 1L, LEAST, LEAST - 1L, 1L << 32, (1L << 32) - 1, 16777216, 16777217,
            -16777217, 16777219, Long.MAX_VALUE, Long.MIN_VALUE, 1L << 62, (1L << 39) + (1L << 15), (1L << 39) + (1L << 15) + 1};
        for (long v : all) {
            r.due("set(0, 1, " + v + ")", 1).due("get(0, 1)", (byte) v).due("get(0, 0)", 0);
            r.due("set(1, 0, " + v + ")", 1).due("get(1, 0)", (int) v).due("get(1, 1)", 0);
            r.due("set(2, 1, " + v + ")", 1).due("get(2, 1)", bits(v)).due("get(2, 0)", 0);
        }
    }

    static void get() {
        Run.holds("Place i of a ROW (a float's bits). NO: no such ROW, nothing there, no such place.");
        Run r = filled(new Run(), 0, 0, 5, -6);
        filled(r, 1, 1, MOST, LEAST);
        filled(r, 2, 2, 1, -1);
        r.refused("get(0, 0)", 5).refused("get(0, 1)", -6).refused("get(1, 0)", MOST).refused("get(1, 1)", LEAST);
        r.refused("get(2, 0)", 0x3f800000).refused("get(2, 1)", Float.floatToRawIntBits(-1f));
        for (int row = 0; row < 3; row++) {
            for (int i : new int[] {-1, 2, LEAST, MOST}) r.refused("get(" + row + ", " + i + ")", NO);
        }
        r.refused("get(3, 0)", NO).refused("get(5, 0)", NO).refused("get(6, 0)", NO).refused("get(-1, 0)", NO).due("row(3, 0, 0)", 1).due("get(3, 0)", NO);
    }

    static void move() {
        Run.holds("n places of a ROW from i on come to another one (or the same) from j on, as they all were before: n. NONE: rows; NOTHING; "
            + "CAST; BEYOND: n, i or j is below 0, or beyond either's end.");
        Run r = filled(new Run(), 0, 1, 1, 2, 3, 4, 5);
        filled(r, 1, 1, 7, 8, 9);
        filled(r, 2, 0, 6);
        r.refused("move(6, -1, 3, 0, 1)", -1).refused("move(3, 0, 6, 0, 1)", -1).refused("move(3, -1, 2, 0, 1)", -11).refused("move(2, 0, 1, 0, -1)", -12);
        String[] wrong = {"0, -1, 1, 0, 1", "0, 0, 1, -1, 1", "0, 0, 1, 0, -1", "0, 0, 1, 0, 4", "0, 0, 1, 1, 3", "0, 3, 1, 0, 3", "0, 5, 1, 0, 1",
            "0, 6, 1, 0, 0", "0, 0, 1, 4, 0", "1, 0, 0, 3, 3", "1, 1, 0, 0, 3", "0, 0, 0, 1, 5", "0, 1, 0, 0, 5", "0, 0, 0, 0, 6",
            "0, " + MOST + ", 1, 0, 1", "0, 0, 1, " + MOST + ", 1", "0, 0, 1, 0, " + MOST, "0, 1, 1, 1, " + MOST, "0, " + MOST + ", 1, " + MOST + ", " + MOST,
            "0, " + LEAST + ", 1, 0, 1", "0, 0, 1, " + LEAST + ", 1", "0, 0, 1, 0, " + LEAST, "0, " + LEAST + ", 1, " + LEAST + ", " + LEAST,
            "0, -1, 1, 0, 0", "0, 0, 1, -1, 0"};
        for (String w : wrong) r.refused("move(" + w + ")", -13);
        r.refused("move(0, 5, 1, 3, 0)", 0).refused("move(0, 0, 1, 0, 0)", 0).refused("move(0, 5, 0, 5, 0)", 0).refused("move(0, 0, 0, 0, 5)", 5);
        r.due("move(0, 2, 1, 0, 3)", 3);
        items(items(r, 0, 1, 2, 3, 4, 5), 1, 3, 4, 5).due("move(0, 0, 0, 1, 4)", 4);
        items(r, 0, 1, 1, 2, 3, 4).due("move(0, 1, 0, 0, 4)", 4);
        items(r, 0, 1, 2, 3, 4, 4).due("move(1, 0, 0, 2, 3)", 3);
        items(r, 0, 1, 2, 3, 4, 5).due("move(0, 0, 1, 2, 1)", 1);
        items(items(r, 1, 3, 4, 1), 2, 6);
    }

    static void twin() {
        Run.holds("Another ROW (or the same) holds one like it, its own: how many items. NONE: rows; NOTHING: row.");
        Run r = filled(new Run(), 0, 1, 300, -2);
        filled(r, 1, 0, 1, 2, 3);
        filled(r, 2, 2, 5);
        r.refused("twin(6, 3)", -1).refused("twin(3, 6)", -1).refused("twin(3, 0)", -11).refused("twin(3, 3)", -11).refused("twin(0, 0)", 2);
        r.due("twin(0, 1)", 2);
        items(r, 1, 300, -2).due("set(1, 0, 7)", 1).due("set(0, 1, 8)", 1);
        items(items(r, 0, 300, 8), 1, 7, -2).due("twin(2, 3)", 1).due("twin(1, 2)", 2);
        items(items(r, 2, 7, -2), 3, bits(5)).due("row(4, 2, 0)", 1).due("twin(4, 1)", 0);
        items(r, 1).refused("set(1, 0, 1)", -13).due("row(0, 0, 60)", 1).due("set(0, 59, 1)", 1).due("twin(0, 5)", 60).due("get(5, 59)", 1);
        r.due("get(5, 60)", NO);
    }

    static void lay() {
        Run.holds("THE PAGE is LAID into a ROW from i on: how many bytes. NONE; NOTHING; BEYOND: not all were (those that had a place are there "
            + "all the same; none, if i is below 0).");
        for (int sort = 0; sort < 3; sort++) {
            long a = sort == 2 ? bits('a') : 'a';
            long b = sort == 2 ? bits('b') : 'b';
            long one = sort == 2 ? bits(1) : 1;
            Run r = filled(paged("ab"), 0, sort, 1, 1, 1);
            r.refused("lay(6, 0)", -1).refused("lay(-1, -1)", -1).refused("lay(1, 0)", -11).refused("lay(1, -1)", -11);
            r.refused("lay(0, -1)", -13).refused("lay(0, " + LEAST + ")", -13).refused("lay(0, " + MOST + ")", -13).refused("lay(0, 3)", -13);
            r.refused("lay(0, 2)", -13, "get(0, 2)");
            items(r, 0, one, one, a).refused("lay(0, 1)", 2, "get(0, ");
            items(r, 0, one, a, b).refused("lay(0, 0)", 2, "get(0, ");
            items(r, 0, a, b, b);
        }
        // none of an empty PAGE: all of it is there
        Run r = filled(new Run(), 0, 0, 1, 1);
        for (int i : new int[] {0, 1, 2, 3, -1, MOST, LEAST}) r.refused("lay(0, " + i + ")", 0);
        r = paged("x".repeat(60) + "y").due("row(0, 1, 60)", 1).due("lay(0, 0)", -13).due("get(0, 59)", 'x').template(0, "z".repeat(60), 0);
        r.due("press(0)", 60).due("lay(0, 0)", 60).due("get(0, 59)", 'z').due("get(0, 0)", 'z');
    }

    static void judge() {
        Run.holds("JUDGED by a ROW from i on. NONE; NOTHING.");
        Run r = filled(paged("ab"), 0, 0, 'a', 'b');
        r.refused("judge(6, 0)", -1).refused("judge(-1, -1)", -1).refused("judge(1, 0)", -11).refused("judge(5, -1)", -11);
        r.refused("judge(0, 0)", -5).refused("judge(0, 1)", 0).refused("judge(0, 2)", 100).due("row(5, 1, 2)", 1).due("judge(5, 0)", 0);
    }
}
