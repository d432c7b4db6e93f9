/** Promises 1 to 9: a new object, and VARIABLES. */
final class VariablesTest {
    public static void main(String[] args) {
        newObject();
        none();
        number();
        real();
        text();
        list();
        item();
        of();
        shown();
        Check.end();
    }

    private static void newObject() {
        TemplatePress x = new TemplatePress();
        for (int v = 0; v < 8; v++) Check.due("of(" + v + ", 0) of a new object", x.of(v, 0), 0);
        for (int k = 0; k < 6; k++) Check.due("has(" + k + ", 0) of a new object", x.has(k, 0), -3);
        long[] told = {0, 0, 200, 0, 0, 0, 0, 0};
        for (int what = 0; what < 8; what++) Check.due("told(" + what + ") of a new object", x.told(what), told[what]);
        for (int r = 0; r < 6; r++) Check.due("get(" + r + ", 0) of a new object", x.get(r, 0), Long.MIN_VALUE);
        Check.due("page(0) of a new object", x.page(0), -1);
        Check.due("why(0, 0) of a new object", x.why(0, 0), -1);
        Check.due("undo() of a new object", x.undo(), -3);
        Check.due("clear() of a new object", x.clear(), 0);
    }

    private static void none() {
        TemplatePress x = new TemplatePress();
        Check.due("none(0)", x.none(0), 0);
        x.number(0, 4);
        Check.due("none of an INT", x.none(0), 1);
        x.real(0, 1, 2);
        Check.due("none of a REAL", x.none(0), 2);
        Check.text(x, 0, "a");
        Check.due("none of a TEXT", x.none(0), 3);
        x.list(7, 6);
        Check.due("none of a LIST", x.none(7), 4);
        Check.due("of behind none", x.of(7, 0), 0);
        Check.due("none(8)", x.none(8), -1);
        Check.due("none(-1)", x.none(-1), -1);
    }

    private static void number() {
        TemplatePress x = new TemplatePress();
        Check.due("number(0, 1000000)", x.number(0, 1000000), 0);
        Check.due("number(0, -1000000)", x.number(0, -1000000), 1);
        Check.due("number(0, 1000001)", x.number(0, 1000001), -2);
        Check.due("number(0, -1000001)", x.number(0, -1000001), -2);
        Check.due("number(0, least)", x.number(0, Integer.MIN_VALUE), -2);
        Check.due("of behind BAD", x.of(0, 2), -1000000);
        Check.due("number(8, 1000001)", x.number(8, 1000001), -1);
        Check.due("number(-1, 0)", x.number(-1, 0), -1);
    }

    private static void real() {
        TemplatePress x = new TemplatePress();
        Check.due("real(0, 1, 3)", x.real(0, 1, 3), 0);
        Check.due("bits of 1 by 3", x.of(0, 2), Float.floatToIntBits(1f / 3f));
        Check.due("real(0, 1, 0)", x.real(0, 1, 0), -2);
        Check.due("real(8, 1, 0)", x.real(8, 1, 0), -1);
        Check.due("bits behind BAD", x.of(0, 2), Float.floatToIntBits(1f / 3f));
        Check.due("real beyond", x.real(0, Integer.MAX_VALUE, 1), 2);
        Check.due("limited", x.of(0, 2), Float.floatToIntBits(1000000f));
        x.real(0, Integer.MIN_VALUE, 1);
        Check.due("limited below", x.of(0, 2), Float.floatToIntBits(-1000000f));
        x.real(0, 1000001, 1);
        Check.due("limited by one", x.of(0, 2), Float.floatToIntBits(1000000f));
        x.real(0, 0, -5);
        Check.due("-0 becomes 0", x.of(0, 2), 0);
        Check.due("0.0 is not true", x.of(0, 3), 0);
        x.real(0, 1, Integer.MIN_VALUE);
        Check.due("bits of a tiny one", x.of(0, 2), Float.floatToIntBits(1f / -2147483648f));
        Check.due("a tiny one is true", x.of(0, 3), 1);
        x.real(0, 16777217, 17);
        Check.due("a as a float", x.of(0, 2), Float.floatToIntBits(16777217f / 17f));
    }

    private static void text() {
        TemplatePress x = new TemplatePress();
        Check.feed(x, "0123456789abcdef");
        Check.due("text(8)", x.text(8), -1);
        Check.due("THE TAPE stays by NONE", x.told(4), 16);
        Check.due("text of 16", x.text(0), 0);
        Check.due("THE TAPE is empty", x.told(4), 0);
        Check.due("shown", Check.shown(x, 0), "0123456789abcdef");
        Check.due("text of 17", Check.text(x, 0, "0123456789abcdefg"), -2);
        Check.due("THE TAPE is empty behind BAD", x.told(4), 0);
        Check.due("shown behind BAD", Check.shown(x, 0), "0123456789abcdef");
        Check.due("text of none", x.text(0), 3);
        Check.due("an empty TEXT", x.of(0, 0), 3);
        Check.due("an empty TEXT is not true", x.of(0, 3), 0);
        Check.text(x, 0, "{}'\n;\u007f\u0001");
        Check.due("any bytes", Check.shown(x, 0), "{}'\n;\u007f\u0001");
    }

    private static void list() {
        TemplatePress x = new TemplatePress();
        Check.due("list(0, 6)", x.list(0, 6), 0);
        Check.due("shown", Check.shown(x, 0), "0,0,0,0,0,0");
        Check.due("list(0, 7)", x.list(0, 7), -2);
        Check.due("list(0, -1)", x.list(0, -1), -2);
        Check.due("list(8, 7)", x.list(8, 7), -1);
        x.item(0, 0, 5);
        Check.due("list(0, 0)", x.list(0, 0), 4);
        Check.due("an empty LIST is not true", x.of(0, 3), 0);
        Check.due("shown as none", x.of(0, 1), 0);
        x.list(0, 2);
        Check.due("all 0", Check.shown(x, 0), "0,0");
        Check.text(x, 0, "abc");
        x.list(0, 3);
        Check.due("all 0 where a TEXT was", Check.shown(x, 0), "0,0,0");
        Check.due("a LIST of noughts is true", x.of(0, 3), 1);
    }

    private static void item() {
        TemplatePress x = new TemplatePress();
        x.list(1, 2);
        Check.due("item(1, 0, 7)", x.item(1, 0, 7), 0);
        Check.due("item(1, 0, -1000000)", x.item(1, 0, -1000000), 7);
        Check.due("item(1, 1, 1000000)", x.item(1, 1, 1000000), 0);
        Check.due("item(1, 2, 0)", x.item(1, 2, 0), -1);
        Check.due("item(1, -1, 0)", x.item(1, -1, 0), -1);
        Check.due("item(1, 2, 1000001): NONE ahead of BAD", x.item(1, 2, 1000001), -1);
        Check.due("item(1, 0, 1000001)", x.item(1, 0, 1000001), -2);
        Check.due("item(0, 9, 0): STATE ahead of i", x.item(0, 9, 0), -3);
        Check.due("item(8, 0, 0)", x.item(8, 0, 0), -1);
        Check.text(x, 2, "ab");
        Check.due("item of a TEXT", x.item(2, 0, 0), -3);
        Check.due("shown", Check.shown(x, 1), "-1000000,1000000");
    }

    private static void of() {
        TemplatePress x = new TemplatePress();
        x.number(0, -5);
        Check.list(x, 1, 1000000, -1000000, -1000000, -1000000, -1000000, -1000000);
        x.real(2, -1, 2);
        Check.due("of an INT", x.of(0, 2), -5);
        Check.due("the longest LIST shown", x.of(1, 1), 52);
        Check.list(x, 1, -1000000, -1000000, -1000000, -1000000, -1000000, -1000000);
        Check.due("the longest of all shown", x.of(1, 1), 53);
        Check.due("a LIST's length", x.of(1, 2), 6);
        Check.due("bits below 0", x.of(2, 2), Float.floatToIntBits(-0.5f));
        Check.due("of(0, 4)", x.of(0, 4), -1);
        Check.due("of(0, -1)", x.of(0, -1), -1);
        Check.due("of(8, 0)", x.of(8, 0), -1);
        x.number(0, 0);
        Check.due("0 is not true", x.of(0, 3), 0);
        Check.due("NOTHING measured", x.of(7, 2), 0);
    }

    private static void shown() {
        TemplatePress x = new TemplatePress();
        x.number(0, 0);
        Check.due("0 shown", Check.shown(x, 0), "0");
        x.number(0, -1000000);
        Check.due("the least INT shown", Check.shown(x, 0), "-1000000");
        x.real(0, -1, 10000);
        Check.due("a REAL just below 0 shown", Check.shown(x, 0), "-0.000");
        x.real(0, -5, 4);
        Check.due("a REAL below 0 shown", Check.shown(x, 0), "-1.250");
        x.real(0, 1000000, 1);
        Check.due("the greatest REAL shown", Check.shown(x, 0), "1000000.000");
        x.real(0, 2, 1000);
        Check.due("0.002 shown", Check.shown(x, 0), "0.002");
        x.real(0, 16777215, 16777216);
        Check.due("just below 1 shown", Check.shown(x, 0), "0.999");
        Check.due("shown(0, 5)", x.shown(0, 5), -1);
        Check.due("shown(0, -1)", x.shown(0, -1), -1);
        Check.due("shown(8, 0)", x.shown(8, 0), -1);
        Check.due("NOTHING shown", x.shown(3, 0), -1);
    }
}
