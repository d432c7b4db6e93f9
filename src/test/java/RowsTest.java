/** Promises 22 to 28: ROWS. */
final class RowsTest {
    private static final int LEAST = Integer.MIN_VALUE;
    private static final int MOST = Integer.MAX_VALUE;

    public static void main(String[] args) {
        row();
        setAndGet();
        move();
        twin();
        lay();
        judge();
        Check.end();
    }

    private static String held(TemplatePress x, int row) {
        StringBuilder b = new StringBuilder();
        for (int i = 0; i < 61 && x.get(row, i) != TemplatePress.NO; i++) b.append(i > 0 ? " " : "").append(x.get(row, i));
        return b.toString();
    }

    private static void fill(TemplatePress x, int row, int sort, long... items) {
        x.row(row, sort, items.length);
        for (int i = 0; i < items.length; i++) x.set(row, i, items[i]);
    }

    private static void row() {
        TemplatePress x = new TemplatePress();
        Check.due("row(0, 0, 60)", x.row(0, 0, 60), 1);
        Check.due("get(0, 59)", x.get(0, 59), 0);
        Check.due("get(0, 60)", x.get(0, 60), Long.MIN_VALUE);
        Check.due("row(0, 2, 0)", x.row(0, 2, 0), 1);
        Check.due("get(0, 0) of an empty one", x.get(0, 0), Long.MIN_VALUE);
        Check.due("row(0, 0, 61)", x.row(0, 0, 61), -2);
        Check.due("row(0, 0, -1)", x.row(0, 0, -1), -14);
        Check.due("row(0, 3, 61)", x.row(0, 3, 61), -1);
        Check.due("row(0, -1, 61)", x.row(0, -1, 61), -1);
        Check.due("row(6, 0, -1)", x.row(6, 0, -1), -1);
        Check.due("row(-1, 0, -1)", x.row(-1, 0, -1), -1);
        Check.due("row(0, 0, least)", x.row(0, 0, LEAST), -14);
        x.row(1, 1, 3);
        x.set(1, 1, 7);
        Check.due("row(1, 1, 3) again", x.row(1, 1, 3), 1);
        Check.due("all 0", held(x, 1), "0 0 0");
        x.set(1, 0, 7);
        x.row(1, 2, 2);
        Check.due("all 0 as floats", held(x, 1), "0 0");
        x.set(1, 0, 7);
        x.row(1, 1, 2);
        Check.due("all 0 as ints", held(x, 1), "0 0");
        x.row(1, 2, 2);
        Check.due("all 0 as floats", held(x, 1), "0 0");
        x.set(1, 1, 7);
        Check.due("BAD changes nothing", x.row(1, 1, 61), -2);
        Check.due("get(1, 1)", x.get(1, 1), Float.floatToIntBits(7f));
    }

    private static void setAndGet() {
        TemplatePress x = new TemplatePress();
        Check.due("set(0, 0, 1)", x.set(0, 0, 1), -11);
        Check.due("set(6, 0, 1)", x.set(6, 0, 1), -1);
        Check.due("set(-1, 0, 1)", x.set(-1, 0, 1), -1);
        Check.due("get(6, 0)", x.get(6, 0), Long.MIN_VALUE);
        Check.due("get(-1, 0)", x.get(-1, 0), Long.MIN_VALUE);
        for (int sort = 0; sort < 3; sort++) {
            x.row(sort, sort, 2);
            Check.due("set(row, 2)", x.set(sort, 2, 1), -13);
            Check.due("set(row, -1)", x.set(sort, -1, 1), -13);
            Check.due("set(row, most)", x.set(sort, MOST, 1), -13);
            Check.due("get(row, -1)", x.get(sort, -1), Long.MIN_VALUE);
            Check.due("get(row, 2)", x.get(sort, 2), Long.MIN_VALUE);
        }
        long[] some = {0, 1, -1, 127, 128, 255, 256, -129, MOST, LEAST, 1L << 40, (1L << 40) - 5, Long.MAX_VALUE,
            Long.MIN_VALUE, 16777217, -16777217, 3, 1000000007L};
        for (long v : some) {
            Check.due("set of bytes", x.set(0, 0, v), 1);
            Check.due("a byte of " + v, x.get(0, 0), (byte) v);
            x.set(1, 1, v);
            Check.due("an int of " + v, x.get(1, 1), (int) v);
            x.set(2, 1, v);
            Check.due("a float of " + v, x.get(2, 1), Float.floatToIntBits((float) v));
        }
        for (int i = 0; i < 63; i++) {
            x.set(2, 0, (3L << i) >> 1);
            Check.due("a float of 3 shifted", x.get(2, 0), Float.floatToIntBits((float) ((3L << i) >> 1)));
        }
    }

    private static void move() {
        TemplatePress x = new TemplatePress();
        fill(x, 0, 1, 1, 2, 3, 4, 5);
        fill(x, 1, 1, 0, 0, 0);
        fill(x, 2, 0, 9, 9, 9, 9);
        Check.due("move", x.move(0, 1, 1, 0, 2), 2);
        Check.due("behind it", held(x, 1), "2 3 0");
        Check.due("move up", x.move(0, 0, 0, 1, 4), 4);
        Check.due("as they all were before", held(x, 0), "1 1 2 3 4");
        Check.due("move down", x.move(0, 1, 0, 0, 4), 4);
        Check.due("as they all were before", held(x, 0), "1 2 3 4 4");
        Check.due("none at the ends", x.move(0, 5, 1, 3, 0), 0);
        Check.due("none beyond", x.move(0, 6, 1, 0, 0), -13);
        Check.due("none beyond the other", x.move(0, 0, 1, 4, 0), -13);
        Check.due("too many", x.move(0, 0, 1, 0, 4), -13);
        Check.due("too many from a place", x.move(1, 2, 0, 0, 2), -13);
        Check.due("n below 0", x.move(0, 1, 1, 1, -1), -13);
        Check.due("i below 0", x.move(0, -1, 1, 0, 1), -13);
        Check.due("j below 0", x.move(0, 0, 1, -1, 1), -13);
        Check.due("far beyond", x.move(0, MOST, 1, 0, MOST), -13);
        Check.due("far beyond the other", x.move(0, 1, 1, MOST, 1), -13);
        Check.due("the least", x.move(0, LEAST, 1, LEAST, LEAST), -13);
        Check.due("CAST", x.move(0, -1, 2, 0, 1), -12);
        Check.due("CAST the other way", x.move(2, 0, 0, 0, 1), -12);
        Check.due("NOTHING", x.move(0, 0, 3, 0, 1), -11);
        Check.due("NOTHING", x.move(3, -1, 0, 0, 1), -11);
        Check.due("NONE", x.move(6, 0, 3, 0, 1), -1);
        Check.due("NONE", x.move(3, 0, 6, 0, 1), -1);
        Check.due("NONE", x.move(-1, 0, 3, 0, 1), -1);
        Check.due("nothing changed", held(x, 0) + "|" + held(x, 1) + "|" + held(x, 2), "1 2 3 4 4|2 3 0|9 9 9 9");
        fill(x, 4, 2, 1, 2, 3);
        fill(x, 5, 2, 0);
        Check.due("move of floats", x.move(4, 2, 5, 0, 1), 1);
        Check.due("behind it", x.get(5, 0), Float.floatToIntBits(3f));
    }

    private static void twin() {
        TemplatePress x = new TemplatePress();
        fill(x, 0, 0, 1, 2, -3);
        fill(x, 1, 1, 5);
        Check.due("twin", x.twin(0, 1), 3);
        Check.due("behind it", held(x, 1), "1 2 -3");
        x.set(0, 0, 7);
        Check.due("its own", held(x, 1), "1 2 -3");
        x.set(1, 1, 200);
        Check.due("of the same sort", held(x, 1), "1 -56 -3");
        Check.due("its own", held(x, 0), "7 2 -3");
        Check.due("twin of itself", x.twin(0, 0), 3);
        Check.due("behind it", held(x, 0), "7 2 -3");
        Check.due("twin(2, 0)", x.twin(2, 0), -11);
        Check.due("twin(2, 2)", x.twin(2, 2), -11);
        Check.due("twin(6, 0)", x.twin(6, 0), -1);
        Check.due("twin(2, 6)", x.twin(2, 6), -1);
        Check.due("twin(-1, 0)", x.twin(-1, 0), -1);
        Check.due("it stays", held(x, 0), "7 2 -3");
        fill(x, 3, 2, 1, 2);
        Check.due("twin of floats", x.twin(3, 0), 2);
        Check.due("behind it", held(x, 0), "" + Float.floatToIntBits(1f) + " " + Float.floatToIntBits(2f));
        x.row(3, 1, 0);
        Check.due("twin of none", x.twin(3, 0), 0);
        Check.due("an empty one", x.lay(0, 0), 0);
    }

    private static TemplatePress pressed(String text) {
        TemplatePress x = new TemplatePress();
        Check.template(x, 0, text);
        Check.due("press of " + text, x.press(0), text.length());
        return x;
    }

    private static void lay() {
        TemplatePress x = pressed("abc");
        fill(x, 0, 0, 1, 1, 1, 1);
        fill(x, 1, 1, 2, 2, 2);
        fill(x, 2, 2, 3, 3);
        Check.due("lay(0, 1)", x.lay(0, 1), 3);
        Check.due("behind it", held(x, 0), "1 97 98 99");
        Check.due("lay(0, 3)", x.lay(0, 3), -13);
        Check.due("those that had a place", held(x, 0), "1 97 98 97");
        Check.due("lay(0, 4)", x.lay(0, 4), -13);
        Check.due("lay(0, most)", x.lay(0, MOST), -13);
        Check.due("lay(0, -1)", x.lay(0, -1), -13);
        Check.due("lay(0, least)", x.lay(0, LEAST), -13);
        Check.due("none of them", held(x, 0), "1 97 98 97");
        Check.due("lay(1, 0)", x.lay(1, 0), 3);
        Check.due("behind it", held(x, 1), "97 98 99");
        Check.due("lay(2, 0)", x.lay(2, 0), -13);
        Check.due("as floats", held(x, 2), Float.floatToIntBits(97f) + " " + Float.floatToIntBits(98f));
        Check.due("lay(3, -1)", x.lay(3, -1), -11);
        Check.due("lay(6, 0)", x.lay(6, 0), -1);
        Check.due("lay(-1, 0)", x.lay(-1, 0), -1);
        x = new TemplatePress();
        fill(x, 0, 0, 1);
        Check.due("an empty PAGE", x.lay(0, 0), 0);
        Check.due("an empty PAGE, all of it", x.lay(0, 9), 0);
    }

    private static void judge() {
        TemplatePress x = pressed("abc");
        fill(x, 0, 0, 0, 97, 98, 99);
        fill(x, 1, 1, 97, 98, 100);
        fill(x, 2, 2, 97, 98);
        Check.due("judge(0, 1)", x.judge(0, 1), -5);
        Check.due("judge(0, 0)", x.judge(0, 0), 0);
        Check.due("judge(0, 2)", x.judge(0, 2), 0);
        Check.due("judge(1, 0)", x.judge(1, 0), 2);
        Check.due("judge(2, 0)", x.judge(2, 0), 102);
        Check.due("judge(2, 2)", x.judge(2, 2), 100);
        Check.due("judge(2, most)", x.judge(2, MOST), 100);
        Check.due("judge(2, -1)", x.judge(2, -1), 100);
        Check.due("judge(2, least)", x.judge(2, LEAST), 100);
        Check.due("judge(3, 0)", x.judge(3, 0), -11);
        Check.due("judge(6, 0)", x.judge(6, 0), -1);
        Check.due("judge(-1, 0)", x.judge(-1, 0), -1);
        Check.due("nothing changed", held(x, 0), "0 97 98 99");
        x.set(2, 0, 98);
        Check.due("judge(2, 0)", x.judge(2, 0), 0);
        x.set(1, 0, 97 + 256);
        Check.due("judge(1, 0)", x.judge(1, 0), 0);
        x = new TemplatePress();
        x.row(0, 0, 0);
        Check.due("an empty PAGE", x.judge(0, 0), -5);
        Check.due("an empty PAGE, whatever the place", x.judge(0, -1), -5);
        Check.due("but not without a row", x.judge(1, 0), -11);
    }
}
