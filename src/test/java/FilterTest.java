/** Promise 17: FILTERS of a VARIABLE. */
final class FilterTest {
    public static void main(String[] args) {
        ofInts();
        ofReals();
        ofTexts();
        ofLists();
        ofNothing();
        kinds();
        answers();
        Check.end();
    }

    private static void makes(String from, TemplatePress x, String filters, int sort, String shown) {
        Check.due(filters + " of " + from, Check.filter(x, 0, filters), sort);
        if (sort >= 0) Check.due(filters + " of " + from, Check.shown(x, 0), shown);
    }

    private static void ofInt(int n, String filters, int sort, String shown) {
        TemplatePress x = new TemplatePress();
        x.number(0, n);
        makes("" + n, x, filters, sort, shown);
        if (sort == -20) Check.due("WHY of " + filters + " of " + n, Check.why(x), shown);
        if (sort == -20) Check.due("the VALUE behind", x.of(0, 2), n);
    }

    private static void ofInts() {
        ofInt(-7, "half", 1, "-3");
        ofInt(7, "half", 1, "3");
        ofInt(999999, "inc:1", 1, "1000000");
        ofInt(999999, "inc:2", -20, "-1.0.4");
        ofInt(-1000000, "inc:99999", 1, "-900001");
        ofInt(-1000, "mul:1000", 1, "-1000000");
        ofInt(-1000, "mul:1001", -20, "-1.0.4");
        ofInt(1000000, "mul:99999", -20, "-1.0.4");
        ofInt(5, "mul:0", 1, "0");
        ofInt(-5, "int|int", 1, "-5");
        ofInt(-5, "real", 2, "-5.000");
        ofInt(1, "third", 2, "0.333");
        ofInt(0, "third", 2, "0.000");
        ofInt(0, "bits", 1, "0");
        ofInt(1, "bits", 1, "" + 0x3ff00);
        ofInt(-1, "bits", 1, "-262400");
        ofInt(1000000, "bits", 1, "" + (int) (Double.doubleToLongBits(1000000.0) >> 32) / 4096);
        ofInt(-3, "bits", 1, "" + (int) (Double.doubleToLongBits(-3.0) >> 32) / 4096);
        ofInt(4, "or:9", 1, "4");
        for (int n = -1000; n <= 1000; n += 13) {
            ofInt(n, "bits", 1, "" + (int) (Double.doubleToLongBits((double) n) >> 32) / 4096);
        }
    }

    private static void ofReal(int a, int b, String filters, float due) {
        TemplatePress x = new TemplatePress();
        x.real(0, a, b);
        Check.due(filters + " of " + a + " by " + b, Check.filter(x, 0, filters), 2);
        Check.due(filters + " of " + a + " by " + b, x.of(0, 2), Float.floatToIntBits(due));
    }

    private static void ofReals() {
        ofReal(1, 4, "inc:3", 3.25f);
        ofReal(999999, 1, "inc:2", 1000000f);
        ofReal(-1000, 1, "mul:99999", -1000000f);
        ofReal(-1, 2, "mul:0", 0f);
        ofReal(-1, 3, "half", -1f / 3f * 0.5f);
        ofReal(5, 1, "third", 5f / 3f);
        ofReal(5, 7, "real|or:3", 5f / 7f);
        TemplatePress x = new TemplatePress();
        x.real(0, -7, 2);
        makes("-3.5", x, "int", 1, "-3");
        x.real(0, -1, 2);
        makes("-0.5", x, "bits", 1, "" + Float.floatToIntBits(-0.5f) / 4096);
        x.real(0, 0, 1);
        makes("0.0", x, "bits", 1, "0");
        tiny();
    }

    /** By halves a REAL comes below the least normal float, and to 0 at last, never to -0. */
    private static void tiny() {
        TemplatePress x = new TemplatePress();
        x.real(0, -3, Integer.MIN_VALUE);
        x.real(1, 3, Integer.MIN_VALUE);
        float above = 3f / 2147483648f;
        float below = -above;
        for (int i = 0; i < 130; i++) {
            Check.filter(x, 0, "half");
            Check.filter(x, 1, "half");
            above = above * 0.5f;
            below = below * 0.5f == 0f ? 0f : below * 0.5f;
            Check.due("half, " + i, x.of(0, 2), Float.floatToIntBits(above));
            Check.due("half below 0, " + i, x.of(1, 2), Float.floatToIntBits(below));
        }
        Check.due("0 at last", x.of(1, 2), 0);
    }

    private static void ofText(String text, String filters, int sort, String shown) {
        TemplatePress x = new TemplatePress();
        Check.text(x, 0, text);
        makes("'" + text + "'", x, filters, sort, shown);
    }

    private static void ofTexts() {
        ofText("aZ`{@[1", "up", 3, "AZ`{@[1");
        ofText("aZ`{@[z", "low", 3, "az`{@[z");
        ofText("Zz", "low", 3, "zz");
        ofText("1a2", "int", 1, "2");
        ofText("abc", "rev", 3, "cba");
        ofText("abcd", "rev", 3, "dcba");
        ofText("", "rev|len", 1, "0");
        ofText("abc", "cut:2", 3, "ab");
        ofText("abc", "cut:4", 3, "abc");
        ofText("abc", "cut:0", 3, "");
        ofText("abc", "pad:5", 3, "abc  ");
        ofText("abc", "pad:2", 3, "abc");
        ofText("abc", "pad:99999", 3, "abc             ");
        ofText("a1b22", "int", 1, "3");
        ofText("abc", "first", 3, "a");
        ofText("abc", "last", 3, "c");
        ofText("", "first", 3, "");
        ofText("", "last", 3, "");
        ofText("abc", "cut:1|pad:3", 3, "a  ");
        ofText("ab", "or:1", 3, "ab");
    }

    private static void ofList(String filters, int sort, String shown, int... items) {
        TemplatePress x = new TemplatePress();
        Check.list(x, 0, items);
        makes("a LIST", x, filters, sort, shown);
    }

    private static void ofLists() {
        ofList("rev", 4, "3,2,1", 1, 2, 3);
        ofList("sort", 4, "-5,0,0,2,9", 2, 0, 9, -5, 0);
        ofList("len", 1, "2", 7, 7);
        ofList("cut:1", 4, "4", 4, 5);
        ofList("cut:99999", 4, "4,5", 4, 5);
        ofList("first", 1, "4", 4, 5);
        ofList("last", 1, "5", 4, 5);
        ofList("first", 0, "");
        ofList("last", 0, "");
        ofList("sum", 1, "0");
        ofList("sum", 1, "1000000", 1000000, -1000000, 1000000);
        ofList("sum", -20, "", 1000000, 1);
        ofList("sum", -20, "", -1000000, -1000000, -1000000, -1000000, -1000000, -1000000);
        ofList("or:3", 4, "8", 8);
        ofList("cut:0|first|or:6", 1, "6", 1);
    }

    private static void ofNothing() {
        TemplatePress x = new TemplatePress();
        makes("NOTHING", x, "or:12345", 1, "12345");
    }

    private static void kinds() {
        String[] names = {"up", "low", "rev", "len", "cut:1", "pad:1", "inc:1", "mul:1", "half", "third", "int", "real",
            "bits", "first", "last", "sum", "sort", "or:1"};
        // which of NOTHING, INT, REAL, TEXT, LIST each is for
        String[] takes = {"3", "3", "34", "34", "34", "3", "12", "12", "12", "12", "123", "12",
            "12", "34", "34", "4", "4", "01234"};
        for (int f = 0; f < names.length; f++) {
            for (int sort = 0; sort < 5; sort++) {
                TemplatePress x = new TemplatePress();
                if (sort == 1) x.number(0, 3);
                if (sort == 2) x.real(0, 3, 2);
                if (sort == 3) Check.text(x, 0, "ab");
                if (sort == 4) Check.list(x, 0, 1, 2);
                boolean taken = takes[f].indexOf('0' + sort) >= 0;
                int answer = Check.filter(x, 0, names[f]);
                if (taken) Check.due(names[f] + " of sort " + sort + " is taken", answer >= 0 ? 1 : 0, 1);
                else Check.due(names[f] + " of sort " + sort, answer, -20);
                if (!taken) Check.due("WHY of " + names[f], Check.why(x), "-1.0.2");
                if (!taken) Check.due("the sort behind", x.of(0, 0), sort);
            }
        }
    }

    private static void answers() {
        TemplatePress x = new TemplatePress();
        x.number(0, 5);
        Check.due("no FILTERS", x.filter(0), -100);
        Check.due("up|", Check.filter(x, 0, "up|"), -103);
        Check.due("xp", Check.filter(x, 0, "xp"), -100);
        Check.due("ux", Check.filter(x, 0, "ux"), -100);
        Check.due("|up", Check.filter(x, 0, "|up"), -100);
        Check.due("inc:1 ", Check.filter(x, 0, "inc:1 "), -105);
        Check.due("inc:123456", Check.filter(x, 0, "inc:123456"), -109);
        Check.due("inc", Check.filter(x, 0, "inc"), -103);
        Check.due("inc:", Check.filter(x, 0, "inc:"), -104);
        Check.due("inc:1}", Check.filter(x, 0, "inc:1}"), -105);
        Check.due("inc:1|incs", Check.filter(x, 0, "inc:1|incs"), -106);
        Check.due("THE TAPE is empty", x.told(4), 0);
        Check.due("nothing became", x.of(0, 2), 5);
        Check.due("no reasons", x.told(1), 0);
        Check.feed(x, "inc:1");
        Check.due("filter(8)", x.filter(8), -1);
        Check.due("filter(-1)", x.filter(-1), -1);
        Check.due("THE TAPE stays by NONE", x.told(4), 5);
        Check.due("filter(0)", x.filter(0), 1);
        Check.due("of(0, 2)", x.of(0, 2), 6);
        Check.due("a fault behind one that did", Check.filter(x, 0, "inc:1|up"), -20);
        Check.due("nothing became of it", x.of(0, 2), 6);
        Check.due("THE TAPE is empty behind -20", x.told(4), 0);
    }
}
