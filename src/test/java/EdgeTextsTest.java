/** Boundary cases of what a T is and of promises 10 to 14, one test for each sentence that names one. */
final class EdgeTextsTest {
    private static final int LEAST = Integer.MIN_VALUE;
    private static final int MOST = Integer.MAX_VALUE;

    public static void main(String[] args) {
        Run.all(EdgeTextsTest.class);
    }

    /** A text that is a T, in the place of another one. */
    private static Run good(String text, int nodes) {
        Run r = new Run().template(0, "{b}old", 1).template(0, text, nodes);
        return r.due("has(0, 0)", nodes).due("has(0, 6)", text.length()).due("told(4)", 0);
    }

    /** A text that is none: the TEMPLATE stays as it was. */
    private static void faulty(String text, int place) {
        Run r = new Run().template(0, "{b}old", 1).feed(text).refusedReading("template(0)", -100 - place);
        r.due("has(0, 0)", 1).due("has(0, 6)", 6).due("told(4)", 0).due("told(1)", 0).pressed(0, "old");
    }

    private static String many(String text, int n) {
        return text.repeat(n);
    }

    // ---- the paragraph "TEMPLATES"

    static void templates0To5() {
        Run.holds("TEMPLATES 0 .. 5 hold nothing (at first)");
        Run r = new Run().feed("ab");
        String[] calls = {"template(", "drop(", "has(", "look(", "press("};
        String[] behind = {")", ")", ", 0)", ", 0)", ")"};
        for (int i = 0; i < calls.length; i++) {
            for (int k : new int[] {-1, 6, LEAST, MOST}) r.refused(calls[i] + k + behind[i], -1);
        }
        for (int k = 0; k < 6; k++) {
            r.refused("drop(" + k + ")", -3).refused("has(" + k + ", 0)", -3);
            r.fails("press(" + k + ")", k + ".0.1").fails("look(" + k + ", 0)", k + ".0.1");
        }
        r.due("told(3)", 0).due("template(0)", 0).due("told(3)", 1).feed("c").due("template(5)", 0).due("told(3)", 33);
        r.pressed(0, "ab").pressed(5, "c").due("has(0, 6)", 2).due("has(5, 6)", 1).due("look(0, 3)", 3).due("look(5, 2)", 2);
        r.due("drop(0)", 0).due("drop(5)", 0).due("told(3)", 0);
    }

    static void tapesOf160() {
        Run.holds("what was read from THE TAPE (0 .. 160 bytes)");
        good("", 0).due("press(0)", 0).page("");
        String most = many("0123456789", 16);
        Run r = new Run().feed(most).refused("feed(65)", -4).due("told(4)", 160).due("template(0)", 0);
        r.due("has(0, 6)", 160).due("press(0)", 160).due("page(159)", '9').due("page(160)", -1);
        good(many("{b}", 53) + "x", 53);
        good(many("{?b}{/}", 22) + "123456", 22);
    }

    static void anyByte() {
        Run.holds("T: PIECES, any number: a byte other than { }");
        good("", 0).pressed(0, "");
        StringBuilder all = new StringBuilder();
        for (char c = 1; c < 128; c++) if (c != '{' && c != '}') all.append(c);
        // < and > are among them, and ` once
        all.append('`');
        Run r = good(all.toString(), 0).due("press(0)", 126);
        for (int i = 0; i < 126; i++) r.due("page(" + i + ")", all.charAt(i));
        good("z|~", 0).pressed(0, "z|~");
        faulty("}", 0);
        faulty("z}", 1);
        faulty("{b}}", 3);
        faulty("{?b}}", 4);
        faulty("{", 1);
        faulty("z{", 2);
    }

    static void semicolons() {
        Run.holds("A byte ; is one like others.");
        good(";", 0).pressed(0, ";");
        good("a;b;;{';'};", 1).pressed(0, "a;b;;;;");
        good("<;\";{';'}\";{';'}>`;{';'}`", 3).pressed(0, "<;\";;\";_>`;;`");
        faulty("{;}", 1);
        faulty("{b;}", 2);
    }

    static void branches() {
        Run.holds("{?C}T{/}, {?C}T{:}T{/}");
        good("{?b}{/}", 1);
        good("{?b}x{/}", 1).pressed(0, "");
        good("{?b}{:}{/}", 1);
        good("{?b}x{:}y{/}", 1).pressed(0, "y");
        faulty("{?b}x{:}y{:}z{/}", 10);
        faulty("{?b}{:}{:}", 8);
        faulty("{?b}", 4);
        faulty("{?b}{:}", 7);
        faulty("{?b}{/", 6);
        faulty("{?b}{:", 6);
        faulty("{?b}{/ }", 6);
        faulty("{?b}{: }", 6);
        faulty("{?b}{/}{/}", 8);
        faulty("{?b}{/}{:}", 8);
        faulty("{? b}{/}", 2);
        faulty("{/}", 1);
        faulty("{:}", 1);
    }

    static void loops() {
        Run.holds("{*v E}T{/}, {*v E}T{:}T{/}");
        good("{*a b}{/}", 1);
        good("{*a b}{:}{/}", 1);
        good("{*a 'x'|len|or:1}{/}", 1);
        faulty("{*a b}{:}{:}", 10);
        faulty("{*a b}", 6);
        faulty("{*a b}{:}", 9);
        faulty("{*a}", 3);
        faulty("{*ab}", 3);
        faulty("{*a  b}", 4);
        faulty("{* a b}", 2);
        faulty("{*a b }", 5);
        faulty("{*a !b}", 4);
        faulty("{*a b<c}", 5);
        faulty("{*# b}", 2);
    }

    static void blocks() {
        Run.holds("{=B}T{/}, B one of A .. D");
        good("{=A}{/}{=B}{/}{=C}{/}{=D}{/}", 4).due("has(0, 3)", 15);
        good("{=A}{/}", 1).due("has(0, 3)", 1);
        good("{=D}{/}", 1).due("has(0, 3)", 8);
        faulty("{=E}{/}", 2);
        faulty("{=@}{/}", 2);
        faulty("{=a}{/}", 2);
        faulty("{=}{/}", 2);
        faulty("{=AB}{/}", 3);
        faulty("{=A}", 4);
        faulty("{=A}{:}{/}", 5);
        faulty("{?b}{=A}{:}{/}{/}", 9);
    }

    static void above() {
        Run.holds("{^} (within a {=B})");
        good("{=A}{^}{/}", 2);
        good("{=A}{^}{^}{/}{=B}{^}{/}", 5);
        good("{=A}{?b}{^}{:}{^}{/}{/}", 4);
        good("{=A}{*a b}{?b}{^}{/}{:}{^}{/}{/}", 5);
        good("{=A}{=B}{/}{^}{/}", 3);
        faulty("{^}", 1);
        faulty("{?b}{^}{/}", 5);
        faulty("{?b}{:}{^}{/}", 8);
        faulty("{*a b}{^}{/}", 7);
        faulty("{=A}{/}{^}", 8);
        faulty("{=A}{=B}{/}{/}{^}", 15);
        faulty("{?b}{=A}{/}{^}{/}", 12);
        faulty("{=A}{^^}{/}", 6);
        faulty("{=A}{^A}{/}", 6);
    }

    static void namesAndNumbers() {
        Run.holds("v: a .. h; k: 0 .. 5.");
        good("{a}{h}{*a a}{/}{*h h}{/}{@a=a}{@h=h}", 6).due("has(0, 5)", 129);
        good("{>0}{>5}", 2).due("has(0, 4)", 33);
        good("{<0}", 1).due("has(0, 2)", 0);
        good("{<5}", 1).due("has(0, 2)", 5);
        faulty("{`}", 1);
        faulty("{i}", 1);
        faulty("{A}", 1);
        faulty("{ab}", 2);
        faulty("{*` b}", 2);
        faulty("{*i b}", 2);
        faulty("{@`=b}", 2);
        faulty("{@i=b}", 2);
        faulty("{@a=i}", 4);
        faulty("{>/}", 2);
        faulty("{>6}", 2);
        faulty("{>}", 2);
        faulty("{>00}", 3);
        faulty("{</}", 2);
        faulty("{<6}", 2);
        faulty("{<00}", 3);
    }

    static void atTheVeryBeginning() {
        Run.holds("at the very beginning also {<k}");
        good("{<3}", 1).due("has(0, 2)", 3);
        good("{<3}x", 1).due("has(0, 2)", 3);
        faulty("x{<3}", 2);
        faulty("\n{<3}", 2);
        faulty("{<3}{<3}", 5);
        faulty("{?b}{<3}{/}", 5);
        faulty("{=A}{<3}{/}", 5);
        faulty("{<", 2);
        faulty("{<3", 3);
        faulty("{< 3}", 2);
    }

    static void anyNumberOfFilters() {
        Run.holds("E: an OPERAND, and any number of | and a FILTER (its name; those with n : and n).");
        good("{b}", 1);
        good("{b|or:1}", 1);
        good("{b" + many("|or:00001", 17) + "}", 1).pressed(0, "1");
        String[] plain = {"up", "low", "rev", "len", "half", "third", "int", "real", "bits", "first", "last", "sum", "sort"};
        for (String name : plain) {
            good("{b|" + name + "}", 1);
            faulty("{b|" + name + ":1}", 3 + name.length());
        }
        for (String name : new String[] {"cut", "pad", "inc", "mul", "or"}) {
            good("{b|" + name + ":0}", 1);
            good("{b|" + name + ":99999}", 1);
            faulty("{b|" + name + "}", 3 + name.length());
            faulty("{b|" + name + ":}", 4 + name.length());
            faulty("{b|" + name + ":100000}", 9 + name.length());
            faulty("{b|" + name + ":-1}", 4 + name.length());
            faulty("{b|" + name + " :1}", 3 + name.length());
        }
        faulty("{b|}", 3);
        faulty("{b||up}", 3);
        faulty("{|up}", 1);
        faulty("{b |up}", 2);
    }

    static void numbers() {
        Run.holds("OPERAND: v; #; a number of 1 to 5 figures, - ahead, if one likes");
        good("{0}", 1).pressed(0, "0");
        good("{-9}", 1).pressed(0, "-9");
        good("{99999}", 1).pressed(0, "99999");
        good("{-99999}", 1).pressed(0, "-99999");
        good("{00000}{-00000}", 2).pressed(0, "00");
        good("{#}", 1);
        faulty("{}", 1);
        faulty("{-}", 2);
        faulty("{--1}", 2);
        faulty("{+1}", 1);
        faulty("{100000}", 6);
        faulty("{-100000}", 7);
        faulty("{1.5}", 2);
        faulty("{1a}", 2);
        faulty("{/1}", 1);
        faulty("{##}", 2);
        faulty("{#1}", 2);
        faulty("{-#}", 2);
        faulty("{-a}", 2);
        faulty("{ 1}", 1);
        faulty("{1 }", 2);
    }

    static void texts() {
        Run.holds("' and bytes other than ' { } (16 at most) and '");
        good("{''}", 1).pressed(0, "");
        good("{'0123456789abcdef'}", 1).pressed(0, "0123456789abcdef");
        good("{'\u0001\u007f|:;\"\n~'}", 1).pressed(0, "\u0001\u007f|:;\"\n~");
        faulty("{'0123456789abcdefg'}", 18);
        faulty("{'0123456789abcdef", 18);
        faulty("{'0123456789abcde", 17);
        faulty("{'0123456789abcdef}", 18);
        faulty("{'''}", 3);
        faulty("{'{'}", 2);
        faulty("{'a}'}", 3);
        faulty("{'", 2);
        faulty("{'a", 3);
        faulty("{'a'", 4);
        faulty("{'a'b}", 4);
    }

    static void conditions() {
        Run.holds("C: !E, or E, or E<E, or E=E.");
        good("{?!b}{/}{?b}{/}{?b<b}{/}{?b=b}{/}", 4);
        good("{?!b|or:1}{/}{?b|or:1<'x'|len}{/}{?#=-1|inc:1}{/}", 3);
        faulty("{?}{/}", 2);
        faulty("{?!}{/}", 3);
        faulty("{?!!b}{/}", 3);
        faulty("{?b!}{/}", 3);
        faulty("{?!b<b}{/}", 4);
        faulty("{?!b=b}{/}", 4);
        faulty("{?b<}{/}", 4);
        faulty("{?b=}{/}", 4);
        faulty("{?<b}{/}", 2);
        faulty("{?=b}{/}", 2);
        faulty("{?b<!b}{/}", 4);
        faulty("{?b<b<b}{/}", 5);
        faulty("{?b=b=b}{/}", 5);
        faulty("{?b==b}{/}", 4);
        faulty("{?b>b}{/}", 3);
        faulty("{b<b}", 2);
        faulty("{!b}", 1);
        faulty("{@a=!b}", 4);
        faulty("{@a=b=b}", 5);
        faulty("{@a}", 3);
        faulty("{@a=}", 4);
    }

    static void within4Others() {
        Run.holds("A {?, {* or {= within 4 others of these is none.");
        String[] opens = {"{?b}", "{*a b}", "{=A}", "{?b}{:}", "{*a b}{:}"};
        for (String open : opens) {
            String four = many(open, 4);
            String ends = many("{/}", 4);
            good(four + ends, 4);
            good(four + "{b}{>1}{@a=b}x" + ends, 7);
            for (String fifth : new String[] {"{?b}", "{*a b}", "{=A}"}) {
                faulty(four + fifth + "{/}" + ends, four.length() + 1);
                good(many(open, 3) + fifth + "{/}" + fifth + "{/}" + many("{/}", 3), 5);
                good(four + "{/}" + fifth + "{/}" + many("{/}", 3), 5);
            }
        }
        good("{=A}{=B}{=C}{=D}{^}{/}{/}{/}{/}", 5);
        good("{?b}{*a b}{=A}{?b}{/}{/}{:}{=B}{/}{/}{:}{*a b}{=C}{?b}{/}{/}{/}{/}", 8);
        faulty("{?b}{*a b}{=A}{?b}{*", 19);
        faulty("{?b}{*a b}{=A}{?b}{", 19);
    }

    static void faultsOfFilters() {
        Run.holds("FAULT of a text: of a FILTER's name that is none (of as many of a .. z as stand there; an empty one, too) "
            + "where it begins");
        faulty("{b|u}", 3);
        faulty("{b|upp}", 3);
        faulty("{b|uq}", 3);
        faulty("{b|tup}", 3);
        faulty("{b|lens}", 3);
        faulty("{b|o:1}", 3);
        faulty("{b|ors:1}", 3);
        faulty("{b|}", 3);
        faulty("{b|:1}", 3);
        faulty("{b|1}", 3);
        faulty("{b|UP}", 3);
        faulty("{b|{", 3);
        faulty("{b| up}", 3);
        // the name ends where no a .. z stands, and is one
        faulty("{b|upP}", 5);
        faulty("{b|up`}", 5);
        faulty("{b|up{}", 5);
        faulty("{b|or1}", 5);
        faulty("{b|up_}", 5);
        // a text that ends within a name
        faulty("{b|", 3);
        faulty("{b|le", 3);
        faulty("{b|len", 6);
        faulty("{b|cu", 3);
        faulty("{b|cut", 6);
        faulty("{b|cut:", 7);
        faulty("{b|cut:1", 8);
        faulty("{b|up|", 6);
        faulty("{b|up|l", 6);
        faulty("{?b|up<b|lo}", 9);
        // each name, with one byte of it another one
        String[] names = {"up", "low", "rev", "len", "cut", "pad", "inc", "mul", "half", "third", "int", "real", "bits", "first", "last",
            "sum", "sort", "or"};
        for (String name : names) {
            for (int i = 0; i < name.length(); i++) faulty("{b|" + name.substring(0, i) + "x" + name.substring(i + 1) + ":1}", 3);
        }
        faulty("{b|" + many("z", 157), 3);
        faulty("{b|" + many("up|", 52), 159);
        faulty("xx{b|" + many("up|", 51) + "u}", 158);
    }

    static void otherFaults() {
        Run.holds("otherwise the place (from 0) of the first byte with which no T goes on; the length, if it ends too early.");
        faulty("}", 0);
        faulty("}}", 0);
        faulty("x}", 1);
        faulty(many("x", 159) + "}", 159);
        faulty(many("x", 159) + "{", 160);
        faulty(many("x", 158) + "{b", 160);
        faulty(many("x", 158) + "{}", 159);
        faulty("{?b}" + many("x", 156), 160);
        good(many("x", 157) + "{b}", 1);
        faulty("{", 1);
        faulty("{?", 2);
        faulty("{?b", 3);
        faulty("{*", 2);
        faulty("{*a", 3);
        faulty("{*a ", 4);
        faulty("{*a b", 5);
        faulty("{=", 2);
        faulty("{=A", 3);
        faulty("{@", 2);
        faulty("{@a", 3);
        faulty("{@a=", 4);
        faulty("{@a=b", 5);
        faulty("{>", 2);
        faulty("{>1", 3);
        faulty("{=A}{^", 6);
        faulty("{b}}{", 3);
    }

    static void lines() {
        Run.holds("LINE of a PIECE: 1 and how many bytes 10 stand ahead of it.");
        String[] texts = {"{a|up}", "\t\u000b\r{a|up}", "\n{a|up}", "\n\n{a|up}\n", "{'\n'}{a|up}", "{@b='\n'}{@b='\n'|sum}", "{'\n'|sum}",
            "{?a}\n{a|up}{/}", "{?!a}\n{:}\n{a|up}{/}", "{?'\n'<'\n\n'|len}{/}", many("\n", 154) + "{a|up}"};
        int[] lines = {1, 1, 2, 3, 2, 2, 1, 2, 3, 1, 155};
        for (int i = 0; i < texts.length; i++) {
            new Run("number(0, 1)").templates(texts[i]).due("press(0)", -20).why("0." + lines[i] + ".2");
        }
    }

    static void nodes() {
        Run.holds("NODES: PIECES that begin with {, those within others, too ({:} and {/} aside).");
        good("abc", 0);
        good("{b}", 1);
        good("{<0}", 1);
        good("{<0}{b}", 2);
        good("{?b}{:}{/}", 1);
        good("{?b}{b}{:}{b}{/}", 3);
        good("{*a b}{b}{:}{b}{/}", 3);
        good("{=A}{^}{/}{>1}{@a=1}", 4);
        good("{=A}{=B}{=C}{=D}{b}{/}{/}{/}{/}", 5);
    }

    // ---- the promises

    static void feed() {
        Run.holds("A byte (1 .. 127) comes behind THE TAPE's: how many it has. BAD; FULL.");
        Run r = new Run();
        r.due("feed(1)", 1).due("feed(127)", 2).refused("feed(0)", -2).refused("feed(128)", -2).refused("feed(-1)", -2);
        r.refused("feed(" + LEAST + ")", -2).refused("feed(" + MOST + ")", -2).refused("feed(257)", -2);
        r.due("text(0)", 0).shows(0, "\u0001\u007f");
        for (int i = 1; i <= 160; i++) r.due("feed(" + (i % 127 + 1) + ")", i);
        r.refused("feed(1)", -4).refused("feed(127)", -4).refused("feed(0)", -2).refused("feed(128)", -2);
        r.due("told(4)", 160).due("clear()", 160).due("feed(97)", 1).due("text(0)", 3).shows(0, "a");
    }

    static void clear() {
        Run.holds("THE TAPE is empty then: how many bytes it had.");
        Run r = new Run().due("clear()", 0).feed("abc").due("clear()", 3).due("told(4)", 0).due("clear()", 0);
        r.feed("d").due("text(0)", 0).shows(0, "d").feed(many("x", 160)).due("clear()", 160).due("feed(1)", 1);
    }

    static void template() {
        Run.holds("THE TAPE is a TEMPLATE: how many NODES; -100 less the FAULT. NONE (THE TAPE stays).");
        Run r = new Run().feed("{b}ab}");
        r.refused("template(6)", -1).refused("template(-1)", -1).due("told(4)", 6);
        r.refusedReading("template(0)", -105).due("told(4)", 0).due("told(3)", 0).due("told(1)", 0);
        r.due("template(0)", 0).due("has(0, 6)", 0).due("told(3)", 1);
        r.template(0, "{b}x", 1).template(5, "{b}{b}", 2).due("has(0, 6)", 4).due("has(5, 6)", 6);
        r.feed("}").refusedReading("template(5)", -100).due("has(5, 0)", 2).feed("{?b}").refusedReading("template(0)", -104);
        r.pressed(0, "x").template(0, "y", 0).pressed(0, "y");
    }

    static void drop() {
        Run.holds("A TEMPLATE holds nothing: how many NODES it had. NONE; STATE: it held nothing.");
        Run r = new Run().templates("{b}{b}", "x", "", "", "", "{?b}{/}");
        r.refused("drop(6)", -1).refused("drop(-1)", -1);
        r.due("drop(0)", 2).refused("drop(0)", -3).due("drop(5)", 1).refused("drop(5)", -3).due("drop(2)", 0).refused("drop(2)", -3);
        r.due("told(3)", 26).due("drop(1)", 0).due("drop(3)", 0).due("drop(4)", 0).due("told(3)", 0);
        r.fails("press(0)", "0.0.1").refused("has(0, 0)", -3).template(0, "{b}", 1).due("drop(0)", 1);
    }

    static void has() {
        Run.holds("Of a TEMPLATE what 0 NODES, 1 LINES (1 and how many bytes 10), 2 what it EXTENDS (-5: nothing), 3 B's that "
            + "it has (bits 0 .. 3), 4 TEMPLATES that it has a {>k} of (bits), 5 VARIABLES that stand in it (bits, those of {* "
            + "and {@, too), 6 bytes. NONE: k, what; STATE: it holds nothing.");
        String all = "{<5}{=A}{=D}\n{^}{/}{/}{?b=c|len}{:}{>0}{>5}{/}{*d e}{/}{@f='\n'}{h}";
        Run r = new Run().templates("", all, many("\n", 160));
        long[][] want = {{0, 1, -5, 0, 0, 0, 0}, {10, 3, 5, 9, 33, 190, all.length()}, {0, 161, -5, 0, 0, 0, 160}};
        for (int k = 0; k < 3; k++) {
            for (int what = 0; what < 7; what++) r.refused("has(" + k + ", " + what + ")", want[k][what]);
            r.refused("has(" + k + ", 7)", -1).refused("has(" + k + ", -1)", -1);
        }
        for (int what = 0; what < 7; what++) r.due("has(3, " + what + ")", -3);
        r.refused("has(3, 7)", -1).refused("has(3, -1)", -1).refused("has(6, 0)", -1).refused("has(-1, 6)", -1);
        r.refused("has(3, " + LEAST + ")", -1).refused("has(1, " + MOST + ")", -1);
        // neither bytes nor texts nor names of FILTERS are VARIABLES
        good("abc{'abc'}{1|or:1}{#|bits}", 3).due("has(0, 5)", 0).due("has(0, 1)", 1);
        good("{*a 1}{/}", 1).due("has(0, 5)", 1);
        good("{@h=1}", 1).due("has(0, 5)", 128);
        good("{?!a}{/}{?1<g}{/}", 2).due("has(0, 5)", 65);
        good("{?1}{=B}{/}{:}{>3}{=C}{/}{/}", 4).due("has(0, 3)", 6).due("has(0, 4)", 8);
    }
}
