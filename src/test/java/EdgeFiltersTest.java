/** Boundary cases of the FILTERS and of promise 17, one test for each sentence that names one. */
final class EdgeFiltersTest {
    private static final int LEAST = Integer.MIN_VALUE;

    public static void main(String[] args) {
        Run.all(EdgeFiltersTest.class);
    }

    private static int bits(float f) {
        return Float.floatToRawIntBits(f);
    }

    // ---- a VALUE, FILTERS, and what these make of it

    private static void check(Run r, String filters, int sort, String shown) {
        r.filter(0, filters, sort).due("of(0, 0)", sort).shows(0, shown).due("told(4)", 0).due("told(1)", 0);
    }

    private static void fault(Run r, String filters, int sort) {
        r.feed(filters).refusedReading("filter(0)", -20, Run.REASONS).why("-1.0." + sort).due("told(4)", 0);
    }

    private static Run ofInt(int n) {
        return new Run("number(0, " + n + ")");
    }

    private static Run ofReal(int a, int b) {
        return new Run("real(0, " + a + ", " + b + ")");
    }

    private static Run ofText(String bytes) {
        return new Run().text(0, bytes);
    }

    private static Run ofList(int... items) {
        return new Run().list(0, items);
    }

    private static void ints(int n, String filters, int due) {
        check(ofInt(n), filters, 1, "" + due);
    }

    private static void reals(int a, int b, String filters, float due) {
        ofReal(a, b).filter(0, filters, 2).due("of(0, 2)", bits(due)).due("of(0, 3)", due == 0f ? 0 : 1);
    }

    private static void texts(String bytes, String filters, String due) {
        check(ofText(bytes), filters, 3, due);
    }

    private static void lists(String filters, String due, int... items) {
        check(ofList(items), filters, 4, due);
    }

    // ---- the paragraph "FILTERS"

    static void kind() {
        Run.holds("FILTERS make a VALUE another one (KIND: a fault, where it is of none of those told)");
        String[] names = {"up", "low", "rev", "len", "cut:1", "pad:1", "inc:1", "mul:1", "half", "third", "int", "real",
            "bits", "first", "last", "sum", "sort"};
        String[] takes = {"3", "3", "34", "34", "34", "3", "12", "12", "12", "12", "123", "12", "12", "34", "34", "4", "4"};
        for (int f = 0; f < names.length; f++) {
            Run[] values = {new Run(), ofInt(3), ofReal(3, 2), ofText("ab"), ofList(1, 2)};
            for (int sort = 0; sort < 5; sort++) {
                if (takes[f].indexOf('0' + sort) < 0) fault(values[sort], names[f], 2);
                else values[sort].filter(0, names[f], madeOf(names[f], sort)).due("told(1)", 0);
            }
        }
    }

    /** The sort that a FILTER makes of one that it is for. */
    private static int madeOf(String name, int sort) {
        if (name.equals("len") || name.equals("int") || name.equals("bits") || name.equals("sum")) return 1;
        if (name.equals("third") || name.equals("real")) return 2;
        return (name.equals("first") || name.equals("last")) && sort == 4 ? 1 : sort;
    }

    static void upAndLow() {
        Run.holds("up, low (TEXT: letters a .. z, A .. Z become the others)");
        texts("`az{@AZ[", "up", "`AZ{@AZ[");
        texts("`az{@AZ[", "low", "`az{@az[");
        texts("", "up", "");
        texts("", "low", "");
        texts("bcdefghijklmnopq", "up", "BCDEFGHIJKLMNOPQ");
        texts("BCDEFGHIJKLMNOPQ", "low", "bcdefghijklmnopq");
    }

    static void rev() {
        Run.holds("rev (TEXT, LIST: turned about)");
        texts("", "rev", "");
        texts("a", "rev", "a");
        texts("ab", "rev", "ba");
        texts("abc", "rev", "cba");
        texts("0123456789abcdef", "rev", "fedcba9876543210");
        lists("rev", "");
        lists("rev", "5", 5);
        lists("rev", "6,5", 5, 6);
        lists("rev", "6,5,4,3,2,1", 1, 2, 3, 4, 5, 6);
    }

    static void len() {
        Run.holds("len (TEXT, LIST: how many, an INT)");
        check(ofText(""), "len", 1, "0");
        check(ofText("0123456789abcdef"), "len", 1, "16");
        check(ofList(), "len", 1, "0");
        check(ofList(1, 2, 3, 4, 5, 6), "len", 1, "6");
    }

    static void cut() {
        Run.holds("cut:n (TEXT, LIST: the first n, or all)");
        texts("abc", "cut:0", "");
        texts("abc", "cut:1", "a");
        texts("abc", "cut:2", "ab");
        texts("abc", "cut:3", "abc");
        texts("abc", "cut:4", "abc");
        texts("0123456789abcdef", "cut:15", "0123456789abcde");
        texts("0123456789abcdef", "cut:16", "0123456789abcdef");
        texts("0123456789abcdef", "cut:17", "0123456789abcdef");
        texts("abc", "cut:99999", "abc");
        texts("", "cut:1", "");
        lists("cut:0", "", 1, 2);
        lists("cut:1", "1", 1, 2);
        lists("cut:2", "1,2", 1, 2);
        lists("cut:3", "1,2", 1, 2);
        lists("cut:5", "1,2,3,4,5", 1, 2, 3, 4, 5, 6);
        lists("cut:99999", "1,2,3,4,5,6", 1, 2, 3, 4, 5, 6);
    }

    static void pad() {
        Run.holds("pad:n (TEXT: blanks behind, till it has n or 16)");
        texts("abc", "pad:0", "abc");
        texts("abc", "pad:2", "abc");
        texts("abc", "pad:3", "abc");
        texts("abc", "pad:4", "abc ");
        texts("abc", "pad:15", "abc            ");
        texts("abc", "pad:16", "abc             ");
        texts("abc", "pad:17", "abc             ");
        texts("abc", "pad:99999", "abc             ");
        texts("", "pad:1", " ");
        texts("0123456789abcde", "pad:17", "0123456789abcde ");
        texts("0123456789abcdef", "pad:17", "0123456789abcdef");
        // bytes that were cut off don't come again
        texts("abcdef", "cut:2|pad:4", "ab  ");
    }

    static void incOfInts() {
        Run.holds("INT by inc beyond: OVER.");
        ints(999999, "inc:1", 1000000);
        fault(ofInt(999999), "inc:2", 4);
        fault(ofInt(1000000), "inc:1", 4);
        ints(1000000, "inc:0", 1000000);
        ints(900001, "inc:99999", 1000000);
        fault(ofInt(900002), "inc:99999", 4);
        ints(-1000000, "inc:99999", -900001);
        ints(-1, "inc:1", 0);
    }

    static void incOfReals() {
        Run.holds("inc:n (INT: n more; REAL: plus n, LIMITED)");
        reals(999999, 1, "inc:1", 1000000f);
        reals(999999, 1, "inc:2", 1000000f);
        reals(1000000, 1, "inc:99999", 1000000f);
        reals(15999999, 16, "inc:0", 999999.9375f);
        reals(15999999, 16, "inc:1", 1000000f);
        reals(-1, 1, "inc:1", 0f);
        reals(-1000000, 1, "inc:1", -999999f);
        reals(1, LEAST, "inc:1", 1f);
        reals(1, 10, "inc:16", 0.1f + 16f);
    }

    static void mulOfInts() {
        Run.holds("mul:n (INT: times n; REAL likewise, LIMITED; an INT beyond: OVER, a fault)");
        ints(1000, "mul:1000", 1000000);
        fault(ofInt(1000), "mul:1001", 4);
        ints(-1000, "mul:1000", -1000000);
        fault(ofInt(-1000), "mul:1001", 4);
        ints(1000000, "mul:1", 1000000);
        fault(ofInt(1000000), "mul:2", 4);
        fault(ofInt(-1000000), "mul:99999", 4);
        // 429497 * 10000 is 2704 beyond 2 to the 32nd
        fault(ofInt(429497), "mul:10000", 4);
        ints(-1000000, "mul:0", 0);
        ints(0, "mul:99999", 0);
        reals(1000, 1, "mul:1000", 1000000f);
        reals(1000, 1, "mul:1001", 1000000f);
        reals(-1000, 1, "mul:1000", -1000000f);
        reals(-1000, 1, "mul:1001", -1000000f);
        reals(-1000000, 1, "mul:99999", -1000000f);
        reals(-1, 2, "mul:0", 0f);
        reals(1, 3, "mul:3", 1f / 3f * 3f);
    }

    static void half() {
        Run.holds("half (INT: by 2, cut; REAL: times 0.5f, LIMITED: never -0)");
        ints(1, "half", 0);
        ints(-1, "half", 0);
        ints(2, "half", 1);
        ints(-3, "half", -1);
        ints(1000000, "half", 500000);
        ints(-999999, "half", -499999);
        reals(1, 1, "half", 0.5f);
        reals(-1000000, 1, "half", -500000f);
        least(1, "half");
        least(-1, "half");
    }

    /** Of the float next to 0, on one side or the other, a FILTER makes 0, never -0. Thirds take the fewest calls to it. */
    private static void least(int sign, String filter) {
        float f = sign / 2147483648f;
        Run r = ofReal(-sign, LEAST);
        StringBuilder thirds = new StringBuilder();
        while (f != sign * Float.MIN_VALUE) {
            thirds.append(thirds.length() > 0 ? "|third" : "third");
            f = f / 3f;
            if (thirds.length() < 150 && f != sign * Float.MIN_VALUE) continue;
            r.filter(0, thirds.toString(), 2).due("of(0, 2)", bits(f));
            thirds.setLength(0);
        }
        r.due("of(0, 3)", 1).due("of(0, 1)", sign < 0 ? 6 : 5).due("shown(0, 0)", sign < 0 ? '-' : '0');
        r.filter(0, filter, 2).due("of(0, 2)", 0).due("of(0, 3)", 0).due("shown(0, 0)", '0');
    }

    static void third() {
        Run.holds("third (REAL: by 3.0f, LIMITED likewise; INT: a REAL, that by 3.0f)");
        reals(1, 1, "third", 1f / 3f);
        reals(-1000000, 1, "third", -1000000f / 3f);
        reals(0, 1, "third", 0f);
        ofInt(0).filter(0, "third", 2).due("of(0, 2)", 0);
        ofInt(-1).filter(0, "third", 2).due("of(0, 2)", bits(-1f / 3f));
        ofInt(1000000).filter(0, "third", 2).due("of(0, 2)", bits(1000000f / 3f));
        least(1, "third");
        least(-1, "third");
    }

    static void toInt() {
        Run.holds("int (REAL: cast; TEXT: how many of its bytes are figures; INT: itself)");
        check(ofReal(1, 2), "int", 1, "0");
        check(ofReal(-1, 2), "int", 1, "0");
        check(ofReal(16777215, 16777216), "int", 1, "0");
        check(ofReal(-1, 1), "int", 1, "-1");
        check(ofReal(-15999999, 16), "int", 1, "-999999");
        check(ofReal(1000000, 1), "int", 1, "1000000");
        check(ofReal(-1000000, 1), "int", 1, "-1000000");
        check(ofText(""), "int", 1, "0");
        check(ofText("/09:-1"), "int", 1, "3");
        check(ofText("0123456789012345"), "int", 1, "16");
        ints(1000000, "int", 1000000);
        ints(-1000000, "int", -1000000);
    }

    static void toReal() {
        Run.holds("real (INT: as a float; REAL: itself)");
        check(ofInt(0), "real", 2, "0.000");
        check(ofInt(1000000), "real", 2, "1000000.000");
        check(ofInt(-1000000), "real", 2, "-1000000.000");
        reals(-1, 3, "real", -1f / 3f);
        reals(0, 1, "real", 0f);
    }

    static void toBits() {
        Run.holds("bits (REAL: bits of the float, by 4096, cut; INT: the higher 32 bits of those of it as a double, by 4096, "
            + "cut: INTS)");
        check(ofReal(0, 1), "bits", 1, "0");
        check(ofReal(1, 1), "bits", 1, "" + 0x3f800);
        check(ofReal(-1, 1), "bits", 1, "" + -0x40800);
        // bits of a float below 0 are an int below 0, which is cut towards 0
        check(ofReal(-10, 3), "bits", 1, "" + bits(-10f / 3f) / 4096);
        check(ofReal(1000000, 1), "bits", 1, "" + bits(1000000f) / 4096);
        check(ofReal(-1000000, 1), "bits", 1, "" + bits(-1000000f) / 4096);
        check(ofReal(1, LEAST), "bits", 1, "" + bits(-1f / 2147483648f) / 4096);
        for (int n : new int[] {0, 1, -1, 2, 3, -3, 511, 512, 513, 524287, 524288, 999999, 1000000, -1000000}) {
            ints(n, "bits", (int) (Double.doubleToRawLongBits(n) >> 32) / 4096);
        }
    }

    static void firstAndLast() {
        Run.holds("first, last (LIST: that INT, NOTHING of none; TEXT: a TEXT of that byte, or of none)");
        check(ofList(), "first", 0, "");
        check(ofList(), "last", 0, "");
        check(ofList(-4), "first", 1, "-4");
        check(ofList(-4), "last", 1, "-4");
        check(ofList(1, 2, 3, 4, 5, 6), "first", 1, "1");
        check(ofList(1, 2, 3, 4, 5, 6), "last", 1, "6");
        texts("", "first", "");
        texts("", "last", "");
        texts("a", "first", "a");
        texts("a", "last", "a");
        texts("0123456789abcdef", "first", "0");
        texts("0123456789abcdef", "last", "f");
    }

    static void sum() {
        Run.holds("sum (LIST: all added up, an INT, OVER beyond)");
        check(ofList(), "sum", 1, "0");
        check(ofList(-4), "sum", 1, "-4");
        check(ofList(999999, 1), "sum", 1, "1000000");
        fault(ofList(999999, 2), "sum", 4);
        check(ofList(-999999, -1), "sum", 1, "-1000000");
        fault(ofList(-999999, -2), "sum", 4);
        check(ofList(1000000, 1000000, -1000000), "sum", 1, "1000000");
        fault(ofList(1000000, 1000000, 1000000, 1000000, 1000000, 1000000), "sum", 4);
    }

    static void sort() {
        Run.holds("sort (LIST: the lesser first)");
        lists("sort", "");
        lists("sort", "3", 3);
        lists("sort", "2,3", 3, 2);
        lists("sort", "2,2", 2, 2);
        lists("sort", "-1000000,-1,0,0,1,1000000", 1000000, 1, 0, 0, -1, -1000000);
        lists("sort", "1,2,3,4,5,6", 2, 4, 6, 1, 3, 5);
    }

    static void or() {
        Run.holds("or:n (NOTHING: the INT n; others: themselves)");
        check(new Run(), "or:0", 1, "0");
        check(new Run(), "or:99999", 1, "99999");
        ints(0, "or:7", 0);
        reals(0, 1, "or:7", 0f);
        texts("", "or:7", "");
        lists("or:7", "");
        check(ofList(), "first|or:7|inc:1", 1, "8");
    }

    static void figuresOfN() {
        Run.holds("n: 1 to 5 figures (here and in an OPERAND five at most are taken).");
        check(new Run(), "or:1", 1, "1");
        check(new Run(), "or:12345", 1, "12345");
        check(new Run(), "or:00007", 1, "7");
        new Run("number(0, 4)").feed("inc:").refusedReading("filter(0)", -104);
        new Run("number(0, 4)").feed("inc:123456").refusedReading("filter(0)", -109);
        new Run("number(0, 4)").feed("inc:000001").refusedReading("filter(0)", -109);
        new Run("number(0, 4)").feed("inc:-1").refusedReading("filter(0)", -104);
        new Run("number(0, 4)").feed("inc:/").refusedReading("filter(0)", -104);
        new Run("number(0, 4)").feed("inc::").refusedReading("filter(0)", -104);
        new Run().template(0, "{12345}", 1).pressed(0, "12345").feed("{123456}").refusedReading("template(0)", -106);
        new Run().template(0, "{-00000}", 1).pressed(0, "0").feed("{-000000}").refusedReading("template(0)", -107);
        new Run().template(0, "{a|or:99999}", 1).pressed(0, "99999").feed("{a|or:999999}").refusedReading("template(0)", -111);
    }

    // ---- promise 17

    static void filter() {
        Run.holds("THE TAPE is FILTERS (a name, : n, where it has one; | between): the VARIABLE has what they make of its "
            + "VALUE: its sort then");
        Run r = ofInt(5);
        r.filter(0, "inc:1", 1).due("of(0, 2)", 6).filter(0, "inc:1|mul:2|real", 2).due("of(0, 2)", bits(14f));
        r.filter(0, "int|or:1|half", 1).due("of(0, 2)", 7).due("told(4)", 0);
        // as many FILTERS as THE TAPE holds
        StringBuilder most = new StringBuilder("int");
        for (int i = 1; i < 40; i++) most.append("|int");
        r.filter(0, most + "", 1).due("of(0, 2)", 7).feed(most + "|").due("told(4)", 160).refusedReading("filter(0)", -260);
        r = ofInt(5).feed(most.substring(4) + "|half").due("told(4)", 160).due("filter(0)", 1).due("of(0, 2)", 2);
    }

    static void faultsOfFilters() {
        Run.holds("-100 less the FAULT (as in a T, of a text that ends with the last one)");
        Run r = ofText("ab");
        String[] tapes = {"", "|", "|up", "up|", "up||up", "u", "upp", "Up", "up ", " up", "up}", "up:1", "pad", "pad:", "pad:1:", "pad:1|",
            "pad:123456", "padd:1", "up|rev|cut", "1", "up|1", "pad1", "{up", "up|rev|len|xx"};
        int[] places = {0, 0, 0, 3, 3, 0, 0, 0, 2, 0, 2, 2, 3, 4, 5, 6, 9, 0, 10, 0, 3, 3, 0, 11};
        for (int i = 0; i < tapes.length; i++) {
            r = ofText("ab").feed(tapes[i]).refusedReading("filter(0)", -100 - places[i]).due("told(4)", 0).shows(0, "ab");
        }
        r.filter(0, "up", 3).shows(0, "AB");
    }

    static void whyOfFilters() {
        Run.holds("-20 (a FAULT of TEMPLATE -1, LINE 0). NONE (THE TAPE stays).");
        Run r = ofText("ab").feed("up|sum|rev");
        r.refused("filter(8)", -1).refused("filter(-1)", -1).due("told(4)", 10).due("told(1)", 0);
        r.refusedReading("filter(0)", -20, Run.REASONS).why("-1.0.2").due("told(4)", 0).shows(0, "ab");
        r.feed("rev|len|mul:99999|mul:99999").refusedReading("filter(0)", -20, Run.REASONS).why("-1.0.4").shows(0, "ab");
        // a fault of the text comes ahead of what the FILTERS make, and is no FAULT of WHY
        r.feed("sum|x").refusedReading("filter(0)", -104).why("-1.0.4");
        r.feed("x").refused("filter(8)", -1).refusedReading("filter(0)", -100).why("-1.0.4").due("told(5)", 0);
    }
}
