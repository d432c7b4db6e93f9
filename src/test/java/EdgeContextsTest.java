/** Boundary cases of CONTEXTS, ESCAPED, LOOKED THROUGH and of promise 15, one test for each sentence that names one. */
final class EdgeContextsTest {
    private static final int LEAST = Integer.MIN_VALUE;
    private static final int MOST = Integer.MAX_VALUE;
    private static final int PLAIN = 0, TAG = 1, QUOTED = 2, CODE = 3;
    // bytes that lead from PLAIN to a CONTEXT, and back
    private static final String[] INTO = {"", "<", "<\"", "`"};
    private static final String[] BACK = {"", ">", "\">", "`"};
    // <&"`\ ESCAPED by the CONTEXT
    private static final String[] ESCAPED = {"&l;&a;\"`\\", "_____", "&l;&a;&q;`\\", "<&\"\\`\\\\"};

    public static void main(String[] args) {
        Run.all(EdgeContextsTest.class);
    }

    private static Run told(String... texts) {
        return new Run().templates(texts);
    }

    /** By each byte, from a CONTEXT to one that is told by how a VALUE is ESCAPED in it. */
    private static void goesOn(int from, String signs, int... to) {
        for (char c = 1; c < 128; c++) {
            if (c == '{' || c == '}') continue;
            int next = signs.indexOf(c) < 0 ? from : to[signs.indexOf(c)];
            Run r = new Run().text(0, "<&\"`\\").templates(INTO[from] + c + "{a}" + BACK[next]);
            r.pressed(0, INTO[from] + c + ESCAPED[next] + BACK[next]);
            r = told(c + "");
            if (next == from) r.due("look(0, " + from + ")", from);
            else r.fails("look(0, " + from + ")", "0.0.3");
        }
    }

    /** Each byte of a VALUE by itself, of which the CONTEXT isn't changed. */
    private static void escapes(int context, String signs, String... becomes) {
        for (char c = 1; c < 128; c++) {
            String put = signs.indexOf(c) < 0 ? "" + c : becomes[signs.indexOf(c)];
            Run r = new Run().text(0, "" + c).templates(INTO[context] + "{a}{'<'}" + BACK[context]);
            r.pressed(0, INTO[context] + put + ESCAPED[context].substring(0, context == TAG || context == CODE ? 1 : 3) + BACK[context]);
        }
    }

    // ---- the paragraph "CONTEXTS"

    static void contexts0To3() {
        Run.holds("CONTEXTS: 0 PLAIN, 1 TAG, 2 QUOTED, 3 CODE.");
        Run r = told("x");
        for (int c = 0; c < 4; c++) r.refused("look(0, " + c + ")", c);
        r.refused("look(0, 4)", -2).refused("look(0, -1)", -2).refused("look(0, " + LEAST + ")", -2).refused("look(0, " + MOST + ")", -2);
    }

    static void fromPlain() {
        Run.holds("A byte that is a PIECE is put out as it is, and goes on from PLAIN: by < to TAG, by ` to CODE");
        goesOn(PLAIN, "<`", TAG, CODE);
    }

    static void fromTag() {
        Run.holds("from TAG: by > to PLAIN, by \" to QUOTED");
        goesOn(TAG, ">\"", PLAIN, QUOTED);
    }

    static void fromQuoted() {
        Run.holds("from QUOTED: by \" to TAG");
        goesOn(QUOTED, "\"", TAG);
    }

    static void fromCode() {
        Run.holds("from CODE: by ` to PLAIN.");
        goesOn(CODE, "`", PLAIN);
    }

    static void escapedInPlain() {
        Run.holds("in PLAIN: < becomes &l; & becomes &a;");
        escapes(PLAIN, "<&", "&l;", "&a;");
    }

    static void escapedInTag() {
        Run.holds("in TAG: all but figures and letters become _");
        StringBuilder others = new StringBuilder();
        for (char c = 1; c < 128; c++) {
            if (!(c >= '0' && c <= '9' || c >= 'A' && c <= 'Z' || c >= 'a' && c <= 'z')) others.append(c);
        }
        String[] becomes = new String[others.length()];
        for (int i = 0; i < becomes.length; i++) becomes[i] = "_";
        escapes(TAG, others.toString(), becomes);
        new Run("real(0, -1, 2)").list(1, -1, 2).templates("<{a}{b}>").pressed(0, "<_0_500_1_2>");
    }

    static void escapedInQuoted() {
        Run.holds("in QUOTED: \" becomes &q; < and & as in PLAIN");
        escapes(QUOTED, "\"<&", "&q;", "&l;", "&a;");
    }

    static void escapedInCode() {
        Run.holds("in CODE: ` and \\ get a \\ ahead");
        escapes(CODE, "`\\", "\\`", "\\\\");
    }

    static void semicolonBehind() {
        Run.holds("; itself stands behind &l, &a, &q.");
        new Run().text(0, "<").templates("{a}").due("press(0)", 3).page("&l;");
        new Run().text(0, "&").templates("{a}").due("press(0)", 3).page("&a;");
        new Run().text(0, "\"").templates("<\"{a}\">").due("press(0)", 7).page("<\"&q;\">");
        // a ; of the VALUE is one more
        new Run().text(0, "<;").templates("{a}").due("press(0)", 4).page("&l;;");
        new Run().text(0, "").templates("{a}").due("press(0)", 0).page("");
    }

    // ---- the paragraph "LOOKED THROUGH"

    static void allBranchesAndLoops() {
        Run.holds("as if PRINTED, with all branches and loops (once; no E is worked out): PIECES in turn");
        Run r = told("{#}{a|up}{*a 5}{/}{?a<b}{/}{99999|mul:99999}{@a=a|sum}{?'1'=#}{/}");
        r.refused("look(0, 0)", 0).due("told(1)", 0);
        // what is not gone through when PRINTED is looked through all the same
        told("{?1}{:}{>5}{/}").fails("look(0, 0)", "0.1.10 5.0.1").fails("press(0)", "0.1.10 5.0.1");
        told("{?0}{>5}{/}").fails("look(0, 0)", "0.1.10 5.0.1");
        told("{?!1}{>5}{:}{/}").fails("look(0, 0)", "0.1.10 5.0.1");
        Run e = new Run("list(4, 0)").templates("{*a e}{>5}{/}").fails("look(0, 0)", "0.1.10 5.0.1");
        e.template(5, "", 0).due("look(0, 0)", 0).due("press(0)", 0);
        new Run().list(3, 1).templates("{*a d}{:}{>5}{/}").fails("press(0)", "0.1.10 5.0.1");
        // {*a d} and 50 within it: 51 when looked through, 301 when printed
        r = new Run().list(3, 1, 2, 3, 4, 5, 6).templates("{*a d}" + "{b}".repeat(50) + "{/}");
        r.due("look(0, 0)", 0).fails("press(0)", "0.1.6").due("told(5)", 300);
        // the first of the faults
        told("\n{>4}\n{>5}").fails("look(0, 0)", "0.2.10 4.0.1");
        told("{?1}\n{>4}{:}{>5}{/}").fails("look(0, 0)", "0.2.10 4.0.1");
    }

    static void branchesEnd() {
        Run.holds("T's of {?} end in one CONTEXT, which goes on (without {:}: that ahead of it)");
        told("{?a}<{:}<{/}{'<'}>").due("look(0, 0)", 0).pressed(0, "<_>");
        told("{?a}<{:}`{/}>").fails("look(0, 0)", "0.1.3");
        told("{?a}<{:}{/}>").fails("look(0, 0)", "0.1.3");
        told("\n{?a}{:}<{/}>").fails("look(0, 0)", "0.2.3");
        told("{?a}<{/}>").fails("look(0, 0)", "0.1.3");
        told("{?a}<>{/}").due("look(0, 0)", 0);
        told("{?a}<>{:}``{/}").due("look(0, 0)", 0);
        told("<{?a}>{:}\"\">{/}").due("look(0, 0)", 0).due("press(0)", 4);
        told("{?a}{?b}<{:}<{/}{:}<{/}>").due("look(0, 0)", 0);
        told("{?a}{?b}<{:}<{/}{:}`{/}>").fails("look(0, 0)", "0.1.3");
        told("{?a}>{:}\"{/}").fails("look(0, 1)", "0.1.3");
        told("{?a}>{:}\"{/}").due("look(0, 3)", 3);
        told("{?a}{:}{/}{?a}{/}").due("look(0, 2)", 2);
        told("{?a}<{:}>{/}").fails("look(0, 0)", "0.1.3");
        // ahead of the whole
        told("{?a}<{/}").fails("look(0, 0)", "0.1.3");
        told("{?a}<{:}<{/}").fails("look(0, 0)", "0.0.3");
    }

    static void loopsEnd() {
        Run.holds("T's of {*} end in that which was ahead");
        told("{*a b}<>{:}``{/}").due("look(0, 0)", 0);
        told("{*a b}<{/}>").fails("look(0, 0)", "0.1.3");
        told("\n{*a b}{:}<{/}>").fails("look(0, 0)", "0.2.3");
        // both in one CONTEXT is not enough
        told("{*a b}<{:}<{/}>").fails("look(0, 0)", "0.1.3");
        // {:}'s T goes on from what was ahead, too
        told("{*a b}<{:}>{/}").fails("look(0, 0)", "0.1.3");
        told("<{*a b}>{:}<{/}").fails("look(0, 1)", "0.1.3");
        told("{*a b}x{:}{@a='<'}>{/}").due("look(0, 0)", 0);
        told("<{*a b}>{:}>{/}").fails("look(0, 0)", "0.1.3");
        told("<{*a b}><{:}\"\"{/}>").due("look(0, 0)", 0);
        told("{*a b}<{/}").due("look(0, 1)", 1).due("look(0, 2)", 2).due("look(0, 3)", 3).fails("look(0, 0)", "0.1.3");
        told("{*a b}{/}").due("look(0, 0)", 0).due("look(0, 3)", 3);
    }

    static void whatStandsForBlocksEnds() {
        Run.holds("likewise what stands for {=B}, {^}, and a TEMPLATE as a whole (also that of a {>k}); else CONTEXT, a FAULT of "
            + "that PIECE, of that TEMPLATE.");
        told("{=A}<>{/}").due("look(0, 0)", 0);
        told("\n{=A}<{/}>").fails("look(0, 0)", "0.2.3");
        // what stands for {=A} is not of the TEMPLATE in which {=A} stands
        told("\n{=A}{/}", "{<0}\n\n{=A}<{/}").due("look(0, 0)", 0).fails("look(1, 0)", "1.1.11 0.2.3");
        told("{=A}<{/}", "{<0}{=A}{/}").due("look(1, 0)", 0).fails("look(0, 0)", "0.1.3");
        told("{=A}<{/}", "{<0}{=A}\n{^}>{/}").fails("look(1, 0)", "1.2.3");
        told("{=A}<>{/}", "{<0}{=A}{^}{^}{/}").due("look(1, 0)", 0);
        told("{=A}{/}", "{<0}{=A}{^}<{/}").fails("look(1, 0)", "1.1.11 0.1.3");
        told("\n<").fails("look(0, 0)", "0.0.3").due("look(0, 1)", 1);
        told("", "{<2}", "\n<").fails("look(1, 0)", "1.0.3").fails("look(2, 0)", "2.0.3");
        told("\n{>1}>", "<").fails("look(0, 0)", "0.2.10 1.0.3").fails("look(1, 0)", "1.0.3");
        told("<{>1}>", "<").due("look(0, 0)", 0).fails("press(1)", "1.0.3");
        told("\n{>1}>", "{<2}", "<").fails("look(0, 0)", "0.2.10 1.0.3");
        told("{<3}", "", "", "\n{>1}", "").due("look(0, 0)", 0).template(1, "`", 0).fails("look(0, 0)", "0.1.11 3.2.10 1.0.3");
    }

    // ---- promise 15

    static void look() {
        Run.holds("The CONTEXT in which a TEMPLATE ends, LOOKED THROUGH from a CONTEXT (which is that one); -20. NONE: k; BAD: "
            + "context.");
        Run r = told("a", "<", "{#}");
        r.refused("look(6, 0)", -1).refused("look(-1, 0)", -1).refused("look(6, 4)", -1).refused("look(-1, -1)", -1);
        r.refused("look(0, 4)", -2).refused("look(0, -1)", -2).refused("look(5, 4)", -2).refused("look(1, -1)", -2);
        for (int c = 0; c < 4; c++) r.refused("look(0, " + c + ")", c).refused("look(2, " + c + ")", c);
        for (int c = 1; c < 4; c++) r.refused("look(1, " + c + ")", c);
        r.why("").fails("look(1, 0)", "1.0.3").fails("look(5, 3)", "5.0.1");
        r.refused("look(0, 0)", 0).why("5.0.1").due("told(5)", 0).page("");
        r.due("press(2)", -20).due("told(5)", 1).refused("look(0, 0)", 0).due("told(5)", 1).why("2.1.9");
    }
}
