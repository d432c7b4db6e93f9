/** Boundary cases of PRINTED, FAULTS, PRESSED and of promises 16 and 18 to 21, one test for each sentence that names one. */
final class EdgePressTest {
    private static final int LEAST = Integer.MIN_VALUE;
    private static final int MOST = Integer.MAX_VALUE;

    public static void main(String[] args) {
        Run.all(EdgePressTest.class);
    }

    /** a an INT, b a REAL, c a TEXT, d a LIST, e to g an INT, a TEXT and a LIST that are not TRUE, h NOTHING. */
    private static Run filled() {
        return new Run("number(0, 5)", "real(1, 5, 1)", "number(4, 0)", "text(5)", "list(6, 0)").text(2, "ab").list(3, 30, 10, 20);
    }

    private static Run with(String... texts) {
        return filled().templates(texts);
    }

    private static void puts(String text, String page) {
        with(text).pressed(0, page).shows(0, "5").shows(1, "5.000").shows(2, "ab").shows(3, "30,10,20").shows(7, "");
    }

    private static void fault(String text, int line, int sort) {
        with(text).fails("press(0)", "0." + line + "." + sort);
    }

    // ---- the paragraph "PRINTED"

    static void chains() {
        Run.holds("its CHAIN: k, what it EXTENDS ({<k}), what that EXTENDS, and so on; T of the last of these is put out.");
        with("x").pressed(0, "x");
        with("{<1}x", "y").pressed(0, "y").pressed(1, "y");
        with("{<1}0", "{<2}1", "{<3}2", "{<4}3", "{<5}4", "last").pressed(0, "last").pressed(4, "last").pressed(5, "last");
        with("last", "{<0}1", "{<1}2").pressed(2, "last");
    }

    static void firstBlock() {
        Run.holds("{=B}: of the TEMPLATES of its CHAIN, from k on, the first that has a {=B} (anywhere; the first one in it): T of "
            + "that is put out");
        with("{=A}x{/}").pressed(0, "x");
        with("{=A}{/}").pressed(0, "");
        with("{=A}1{/}{=A}2{/}{=A}3{/}").pressed(0, "111");
        with("{?0}{=A}1{/}{/}{=A}2{/}").pressed(0, "1");
        with("{=A}0{/}{=B}1{/}{=C}2{/}{=D}3{/}", "{<0}{=D}d{/}").pressed(1, "012d").pressed(0, "0123");
        with("{=A}0{/}", "{<0}no{?0}{*a d}{=B}{=A}1{/}{/}{/}{/}no").pressed(1, "1");
        with("{=A}0{/}", "{<0}{=A}1{/}{=A}2{/}", "{<1}", "{<2}{=A}3{/}").pressed(3, "3").pressed(2, "1").pressed(1, "1").pressed(0, "0");
        // the 6th of a CHAIN alone has one
        with("{<1}", "{<2}", "{<3}", "{<4}", "{<5}", "{=A}6{/}").pressed(0, "6");
        // not of the TEMPLATES that are not of the CHAIN
        with("{=A}0{/}", "{<0}{=A}1{/}", "{<0}").pressed(2, "0");
        with("{=A}x{/}<{=B}{/}>", "{<0}{=B}{'<'}{/}{=A}{'<'}{/}").pressed(1, "&l;<_>");
    }

    static void above() {
        Run.holds("{^} in that: T of the {=B} of the next TEMPLATE of the CHAIN behind that one that has one (NO BLOCK: there is "
            + "none).");
        with("{=A}0{/}", "{<0}{=A}[{^}]{/}").pressed(1, "[0]");
        with("{=A}0{/}", "{<0}{=A}[{^}{^}]{/}", "{<1}{=A}({^}){/}").pressed(2, "([00])");
        with("{=A}0{/}", "{<0}", "{<1}", "{<2}", "{<3}", "{<4}{=A}5{^}{/}").pressed(5, "50");
        with("{=A}0{/}{=A}1{/}", "{<0}{=A}{^}{/}").pressed(1, "00");
        with("{=A}{=B}b{/}{/}", "{<0}{=A}a{^}{/}{=B}c{^}{/}").pressed(1, "acb");
        with("{=A}{^}{/}").fails("press(0)", "0.1.8").fails("look(0, 0)", "0.1.8");
        with("{=A}\n{^}{/}", "{<0}{=A}\n\n{^}{/}").fails("press(1)", "1.1.11 0.2.8");
        with("{=B}0{/}", "{<0}{=B}{=A}\n{^}{/}{/}").fails("press(1)", "1.2.8");
        with("{<1}{=A}{^}{/}", "{<2}{=A}{^}{/}", "{<3}{=A}{^}{/}", "{<4}{=A}{^}{/}", "{<5}{=A}{^}{/}", "{=A}6{/}").pressed(0, "6");
    }

    static void blocksInBlocks() {
        Run.holds("{=B}'s in what stands in place of others are put out likewise.");
        with("{=A}0{/}{=B}1{/}", "{<0}{=A}({=B}{/}){/}").pressed(1, "()");
        with("{=A}0{/}{=B}1{/}", "{<0}{=A}({=B}2{/}){/}").pressed(1, "(2)2");
        with("{=A}{=B}1{/}{/}", "{<0}{=B}2{/}").pressed(1, "2").pressed(0, "1");
        with("{=A}0{/}", "{<0}{=A}{=C}c{/}{^}{/}", "{<1}{=C}d{^}{/}").pressed(2, "dc0");
        with("{=A}{/}", "{<0}{=A}{=B}{=C}{=D}x{/}{/}{/}{/}").pressed(1, "x");
    }

    static void parts() {
        Run.holds("{>k}: k PRINTED, with a CHAIN of its own.");
        with("[{>1}{>5}]", "1", "", "", "", "5").pressed(0, "[15]");
        with("{=A}0{/}{>1}", "{=A}1{/}").pressed(0, "01");
        with("{=A}0{>1}{/}", "{<2}{=A}1{/}", "{=A}2{^}{/}", "{<0}{=A}3{^}{/}").pressed(0, "01").pressed(3, "301");
        // of the letter in which the {>k} stands, too
        with("{=A}0{/}", "{<0}{=A}{>2}{^}{/}", "{=A}2{/}").pressed(1, "20");
        with("{>1}", "").pressed(0, "");
        with("<{>1}>{>1}`{>1}`<\"{>1}\">", "{'<`\"'}").pressed(0, "<___>&l;`\"`<\\`\"`<\"&l;`&q;\">");
    }

    static void values() {
        Run.holds("{E}: its VALUE SHOWN, ESCAPED by the CONTEXT.");
        puts("{h}{f}{g}{''}", "");
        puts("{a}{b}{c}{d}{e}", "55.000ab30,10,200");
        puts("<{d}{b}{-1}>", "<30_10_205_000_1>");
        new Run().list(0, -1000000, -1000000, -1000000, -1000000, -1000000, -1000000).templates("{a}").due("press(0)", 53);
        new Run().text(0, "<<<<<<<<<<<<<<<<").templates("{a}").due("press(0)", 48).due("page(47)", ';').due("page(48)", -1);
        new Run().text(0, "````````````````").templates("`{a}`").due("press(0)", 34);
    }

    static void isTrue() {
        Run.holds("{?C}: !E: E is not TRUE; E alone: it is TRUE (NOTHING, 0, 0.0, a TEXT or LIST of none are not)");
        puts("{?h}x{/}{?e}x{/}{?e|real}x{/}{?f}x{/}{?g}x{/}", "");
        puts("{?!h}1{/}{?!e}2{/}{?!e|real}3{/}{?!f}4{/}{?!g}5{/}", "12345");
        puts("{?1}1{/}{?-1}2{/}{?b}3{/}{?c}4{/}{?d}5{/}{?' '}6{/}{?'0'}7{/}", "1234567");
        puts("{?!1}x{/}{?!-1}x{/}{?!b}x{/}{?!c}x{/}{?!d}x{/}{?!' '}x{/}", "");
        new Run("real(0, 1, " + LEAST + ")", "list(1, 1)").templates("{?a}x{/}{?b}y{/}{?a|third|mul:0}z{/}").pressed(0, "xy");
        puts("{?h}x{:}y{/}{?a}x{:}y{/}", "yx");
    }

    static void numbersCompared() {
        Run.holds("E<E, E=E: INTS and REALS by numbers (an INT as a float, if the other is a REAL)");
        puts("{?4<5}1{/}{?5<5}x{/}{?6<5}x{/}{?-5<-4}2{/}{?-5<5}3{/}{?0<0}x{/}", "123");
        puts("{?5=5}1{/}{?5=4}x{/}{?0=-0}2{/}{?-5=5}x{/}", "12");
        puts("{?a=b}1{/}{?b=a}2{/}{?b=b}3{/}{?a<b}x{/}{?b<a}x{/}{?b<b}x{/}", "123");
        puts("{?b<6}1{/}{?4<b}2{/}{?b<5}x{/}{?5<b}x{/}{?e|real=0}3{/}", "123");
        // the floats next to 1
        Run r = new Run("real(0, 16777215, 16777216)", "real(1, 8388609, 8388608)", "number(2, 1)", "real(3, 1, 1)");
        r.templates("{?a<c}1{/}{?c<a}x{/}{?a=c}x{/}{?b<c}x{/}{?c<b}2{/}{?a<d}3{/}{?d<b}4{/}{?a<b}5{/}{?b<a}x{/}{?c=d}6{/}{?a=d}x{/}");
        r.pressed(0, "123456");
        // an INT of a million by the float below it
        r = new Run("number(0, 1000000)", "real(1, 15999999, 16)", "number(2, -1000000)");
        r.templates("{?b<a}1{/}{?a<b}x{/}{?a=b}x{/}{?a|real=a}2{/}{?c<b}3{/}{?c=c|real}4{/}").pressed(0, "1234");
        r.templates("{?999<1000}1{/}{?99999<a}2{/}{?c<-99999}3{/}").pressed(0, "123");
    }

    static void textsCompared() {
        Run.holds("TEXTS by their bytes, the shorter first");
        puts("{?''=''}1{/}{?''<''}x{/}{?''<'a'}2{/}{?'a'<''}x{/}{?'a'=''}x{/}", "12");
        puts("{?'a'<'ab'}1{/}{?'ab'<'a'}x{/}{?'a'='ab'}x{/}{?'ab'='ab'}2{/}{?'ab'<'ab'}x{/}", "12");
        puts("{?'b'<'ab'}x{/}{?'ab'<'b'}1{/}{?'Z'<'a'}2{/}{?'a'<'Z'}x{/}{?'9'<'A'}3{/}", "123");
        puts("{?'10'<'9'}1{/}{?'~'<'\u007f'}2{/}{?'\u0001'<' '}3{/}", "123");
        puts("{?'0123456789abcdef'='0123456789abcdef'}1{/}{?'0123456789abcdee'<'0123456789abcdef'}2{/}", "12");
        puts("{?'0123456789abcdef'<'0123456789abcdee'}x{/}{?'0123456789abcde'<'0123456789abcdef'}1{/}", "1");
        puts("{?c='ab'}1{/}{?c|cut:1<c}2{/}", "12");
        puts("{?'a'='b'}x{/}{?'b'='a'}x{/}{?'ab'='aa'}x{/}{?'aa'='ab'}x{/}{?'ab'='a'}x{/}{?''='a'}x{/}", "");
    }

    static void kindOfComparisons() {
        Run.holds("KIND otherwise; = of others: KIND.");
        String[] values = {"h", "a", "b", "c", "d"};
        for (int i = 0; i < 5; i++) {
            for (int j = 0; j < 5; j++) {
                boolean fits = i == 3 && j == 3 || (i == 1 || i == 2) && (j == 1 || j == 2);
                for (char sign : new char[] {'<', '='}) {
                    String text = "\n{?" + values[i] + sign + values[j] + "}{/}";
                    if (fits) with(text).due("press(0)", 1);
                    else fault(text, 2, 2);
                }
            }
        }
        fault("{?g=g}{/}", 1, 2);
        fault("{?h=0}{/}", 1, 2);
        fault("{?'1'=1}{/}", 1, 2);
    }

    static void loops() {
        Run.holds("{*v E}: E a LIST (KIND otherwise): T for each INT, in order, v having it; {:}'s T, if there is none.");
        puts("{*a d}{a};{/}", "30;10;20;");
        puts("{*a d}{a}{:}x{/}", "301020");
        puts("{*a g}x{:}none{/}", "none");
        puts("{*a g}x{/}", "");
        puts("{*a d|cut:1}{a}{:}x{/}", "30");
        puts("{*a d|cut:0}x{:}{a}{/}", "5");
        puts("{*a g}x{:}{*h d}{h}{/}{/}", "301020");
        puts("{*a d|cut:2}{*h d}{h}{/}{?1}{*h d|rev}{h}{/}{/};{/}", "301020201030;301020201030;");
        puts("{*d d}{d}{/}{d}", "30102030,10,20");
        new Run().list(0, 1, 2, 3, 4, 5, 6).templates("{*b a}{b}{:}x{/}").pressed(0, "123456");
        fault("\n{*a a}{/}", 2, 2);
        fault("{*a b}{/}", 1, 2);
        fault("{*a c}{/}", 1, 2);
        fault("{*a h}{/}", 1, 2);
        fault("{*a f}x{:}y{/}", 1, 2);
        fault("{*a d}{*h a}{/}{/}", 1, 2);
    }

    static void turns() {
        Run.holds("#: how many turns of the innermost loop around it (in its own TEMPLATE, or from where that was PRINTED) there "
            + "were ahead, an INT; NO LOOP: there is none.");
        puts("{*a d}{#}{/}", "012");
        puts("{*a d}{*h d}{#}{/}{#};{/}", "0120;0121;0122;");
        puts("{*a d}{?#}{#|inc:1}{/}{/}", "23");
        puts("{*a d}{*h d|cut:1}{#}{h}{/};{/}", "030;030;030;");
        with("{*a d}{>1}{/}", "{#}{*h d}{#}{/}{#};").pressed(0, "00120;10121;20122;").fails("press(1)", "1.1.9");
        with("{*a d}{>1}{/}", "{>2}", "{#}").pressed(0, "012");
        with("{*a d}{=A}{/}{/}", "{<0}{=A}{#}{/}").pressed(1, "012");
        fault("{#}", 1, 9);
        fault("\n{*a d}{/}{#}", 2, 9);
        fault("{?#}{/}", 1, 9);
        fault("{?1<#}{/}", 1, 9);
        fault("{@a=#}", 1, 9);
        fault("{*a #}{/}", 1, 9);
        fault("{=A}\n{#}{/}", 2, 9);
        with("\n{>1}", "{#}").fails("press(0)", "0.2.10 1.1.9");
        puts("{?0}{#}{/}", "");
    }

    static void turnsInOtherwise() {
        Run.holds("# in {:} of a loop tells the loop around that one (NO LOOP: there is none).");
        puts("{*a d}{*h g}x{:}{#}{/}{/}", "012");
        puts("{*a d}{*h g}x{:}{*h g}x{:}{#}{/}{/}{/}", "012");
        with("{*a d}{>1}{/}", "{*h g}{:}{#}{/}").pressed(0, "012").fails("press(1)", "1.1.9");
        fault("{*a g}{:}\n{#}{/}", 2, 9);
        fault("{*a d}{/}{*a g}{:}{#}{/}", 1, 9);
    }

    static void names() {
        Run.holds("{@v=E}: v has that VALUE.");
        puts("{@h=a}{h}{@h=b}{h}{@h=c}{h}{@h=d}{h}{@a=f}{a}.", "55.000ab30,10,20.");
        puts("{@a=a|inc:1}{@a=a|inc:1}{a}", "7");
        puts("{h}{@h=1}{h}{@h=2}{h}", "12");
        fault("\n{@a=a|up}", 2, 2);
        with("{@a=99999}{@b=a}{@c=b}{@d=c}{@e=d}{@f=e}{@g=f}{@h=g}{h|up}").fails("press(0)", "0.1.2");
    }

    static void behindEachT() {
        Run.holds("Behind each T (of a turn, a branch, a {=B}, a TEMPLATE) VARIABLES have the VALUES they had ahead of it.");
        puts("{*a d}{h}{@h=a}{h}{/}{h}{a}", "3010205");
        puts("{*a g}{:}{@h=1}{h}{/}{h}", "1");
        puts("{?1}{@h=1}{h}{/}{h}", "1");
        puts("{?0}{:}{@h=1}{h}{/}{h}", "1");
        puts("{=A}{@h=1}{h}{/}{h}", "1");
        with("{=A}{@h=1}{h}{/}{h}", "{<0}{=A}{@h=2}{^}{h}{@h=3}{/}").pressed(1, "12");
        with("{>1}{h}{>1}{h}", "{h}{@h=1}{h}").pressed(0, "11").pressed(0, "11").due("of(7, 0)", 0);
        // what is ahead of a T holds in it
        with("{@h=7}{>1}{*h d}{?h}{=A}{h}{/}{/}{/}{h}", "{h}").pressed(0, "73010207");
        puts("{@a=6}{?1}{@a=7}{?1}{@a=8}{a}{/}{a}{/}{a}", "876");
        puts("{*a d}{@d=g}{@a=1}{a}{/}{d}", "11130,10,20");
        // what an earlier PRINTING kept comes no more
        Run r = with("{?1}{@h=1}{@b=1}{@c=1}{h}{/}", "{?1}{@a=1}{a}{/}").pressed(0, "1").due("number(7, 9)", 0).due("number(1, 8)", 2);
        r.pressed(1, "1").shows(7, "9").shows(1, "8").shows(2, "ab").pressed(0, "1").shows(7, "9");
        r = with("{*a d}{@h=a}{@h=h|inc:1}{@h=h|inc:1}{h}{/}");
        for (int i = 0; i < 100; i++) r.due("press(0)", 6).due("told(6)", 6 * '0' + 3 + 2 + 1 + 2 + 2 + 2).due("of(7, 0)", 0);
        // behind a T that ended with a fault
        with("{*a d}{@d=g}{?1}{@b=1}{@a=2}{c|len|up}{/}{/}").fails("press(0)", "0.1.2").shows(0, "5").shows(3, "30,10,20");
    }

    // ---- the paragraph "FAULTS"

    static void noTemplate() {
        Run.holds("1 NO TEMPLATE (it holds nothing: LINE 0)");
        Run r = new Run();
        for (int k = 0; k < 6; k++) r.fails("press(" + k + ")", k + ".0.1").fails("look(" + k + ", 0)", k + ".0.1");
        r.templates("\n\n{>5}").fails("press(0)", "0.3.10 5.0.1").template(5, "", 0).pressed(0, "\n\n");
        r.due("drop(5)", 0).fails("press(0)", "0.3.10 5.0.1");
        with("{<4}").fails("press(0)", "0.1.11 4.0.1");
    }

    static void ofThePiece() {
        Run.holds("2 KIND, 3 CONTEXT (of a TEMPLATE as a whole, which is k of the CHAIN: LINE 0), 4 OVER, 5 BUDGET, 6 STEPS, 7 DEEP, "
            + "8 NO BLOCK, 9 NO LOOP: of the PIECE at which it is");
        fault("\n\n{a|up}", 3, 2);
        fault("{?1}\n{a|up}{/}", 2, 2);
        fault("{?a|up}\n{/}", 1, 2);
        fault("\n{*a c}\n{/}", 2, 2);
        fault("\n{@a=b|up}", 2, 2);
        fault("\n{99999|mul:99999}", 2, 4);
        fault("\n{?99999|inc:99999|mul:6}{/}", 2, 4);
        fault("\n{#}", 2, 9);
        fault("\n{=A}{^}{/}", 2, 8);
        fault("\n\n{=A}<{/}", 3, 3);
        fault("\n\n<", 0, 3);
        with("\n\n{=A}{/}<", "{<0}\n", "{<1}\n").fails("press(2)", "2.0.3").fails("press(1)", "1.0.3").fails("press(0)", "0.0.3");
        with("\nx{'y'}").due("budget(2)", 200).fails("press(0)", "0.2.5").due("budget(1)", 2).fails("press(0)", "0.2.5");
        with("x\n").due("budget(1)", 200).fails("press(0)", "0.1.5");
    }

    static void part() {
        Run.holds("10 PART, of a {>k}, with the FAULT in that behind it");
        with("\n{>1}", "\n\n{>2}", "\n\n\n{a|up}").fails("press(0)", "0.2.10 1.3.10 2.4.2").fails("press(1)", "1.3.10 2.4.2");
        with("{?1}\n{*a d}\n{>1}{/}{/}", "{#}{a|up}").fails("press(0)", "0.3.10 1.1.2");
        with("{>1}\n{>1}{a|up}", "").fails("press(0)", "0.2.2");
        with("{>1}\n{>1}", "{?h}{a|up}{/}{@h=1}").pressed(0, "\n");
        with("{>1}{@h=1}\n{>1}", "{?h}{a|up}{/}").fails("press(0)", "0.2.10 1.1.2");
    }

    static void templateOfAPiece() {
        Run.holds("The TEMPLATE of a PIECE is that in whose text it stands");
        with("{=A}{/}\n{=B}{a|up}{/}", "{<0}\n\n{=A}{a|len}{/}", "{<0}{=B}{/}").fails("press(1)", "1.3.2").fails("press(0)", "0.2.2");
        with("{=A}{/}\n{a|up}", "{<0}{=A}x{/}").fails("press(1)", "1.1.11 0.2.2");
        with("{=A}\n{a|up}{/}", "{<0}{=A}{^}{/}", "{<1}\n\n{=A}{^}{a|up}{/}").fails("press(2)", "2.1.11 1.1.11 0.2.2");
        with("{=A}{/}", "{<0}{=A}{^}\n{a|up}{/}", "{<1}\n\n{=A}{^}{/}").fails("press(2)", "2.1.11 1.2.2");
    }

    static void linksOfTheChain() {
        Run.holds("a FAULT of the j-th TEMPLATE of a CHAIN (0 the first) has a link of SORT 11, LINE 1 ahead of it for each one ahead of "
            + "that in the CHAIN, in order (also one of SORT 10, 1, 3).");
        String[] texts = {"{<1}{=A}\n{a|up}{/}", "{<2}", "{<3}", "{<4}", "{<5}", "{=A}{/}"};
        with(texts).fails("press(0)", "0.2.2").template(0, "{<1}", 1).template(3, "{<4}\n\n{=A}{a|up}{/}", 3)
            .fails("press(0)", "0.1.11 1.1.11 2.1.11 3.3.2").fails("press(3)", "3.3.2");
        texts[0] = "{<1}";
        texts[5] = "\n{a|up}";
        String five = "0.1.11 1.1.11 2.1.11 3.1.11 4.1.11 ";
        with(texts).fails("press(0)", five + "5.2.2").fails("press(4)", "4.1.11 5.2.2").fails("press(5)", "5.2.2");
        texts[5] = "\n{=A}<{/}";
        with(texts).fails("press(0)", five + "5.2.3");
        with(texts).due("drop(5)", 1).fails("press(0)", five + "5.0.1").fails("look(0, 3)", five + "5.0.1");
        texts[5] = "\n{>4}";
        texts[4] = "{<5}{=A}{/}";
        with(texts).due("drop(5)", 1).fails("press(0)", five + "5.0.1");
        with("{<1}", "{<2}", "\n{>3}", "{<4}").fails("press(0)", "0.1.11 1.1.11 2.2.10 3.1.11 4.0.1");
        with("{<1}", "{<2}", "\n{>3}", "{<4}", "<").fails("press(0)", "0.1.11 1.1.11 2.2.10 3.0.3");
    }

    static void sixthOfAChain() {
        Run.holds("DEEP: of the 6th TEMPLATE of a CHAIN that EXTENDS another one (LINE 1)");
        String five = "0.1.11 1.1.11 2.1.11 3.1.11 4.1.11 ";
        with("{<1}", "{<2}", "{<3}", "{<4}", "{<5}", "x").pressed(0, "x").due("look(0, 1)", 1);
        with("{<1}", "{<2}", "{<3}", "{<4}", "{<5}", "{<0}").fails("press(0)", five + "5.1.7").fails("look(0, 0)", five + "5.1.7");
        with("{<1}", "{<2}", "{<3}", "{<4}", "{<5}", "{<5}").fails("press(0)", five + "5.1.7")
            .fails("press(5)", "5.1.11 5.1.11 5.1.11 5.1.11 5.1.11 5.1.7");
        with("{<0}").fails("press(0)", "0.1.11 0.1.11 0.1.11 0.1.11 0.1.11 0.1.7");
        // of the 7th, which holds nothing, nothing is told
        with("{<1}", "{<0}").fails("press(0)", "0.1.11 1.1.11 0.1.11 1.1.11 0.1.11 1.1.7").due("drop(1)", 1).fails("press(0)", "0.1.11 1.0.1");
        with("\n{>1}", "{<1}").fails("press(0)", "0.2.10 1.1.11 1.1.11 1.1.11 1.1.11 1.1.11 1.1.7");
    }

    static void within8Others() {
        Run.holds("of a {>k}, {=B} or {^} within 8 others of these.");
        String four = "{=A}{=B}{=C}{=D}";
        String ends = "{/}{/}{/}{/}";
        // what stands in {>1} is within 5
        String into1 = four + "{>1}" + ends;
        with(into1, "{=A}{=B}\n{>2}{/}{/}", "x").pressed(0, "\nx").due("look(0, 2)", 2);
        with(into1, "{=A}{=B}{=C}\n{>2}{/}{/}{/}", "x").fails("press(0)", "0.1.10 1.2.7").fails("look(0, 0)", "0.1.10 1.2.7").pressed(1, "\nx");
        with(into1, "{=A}{=B}\n{=C}x{/}{/}{/}").pressed(0, "\nx");
        with(into1, "{=A}{=B}{=C}\n{=D}x{/}{/}{/}{/}").fails("press(0)", "0.1.10 1.2.7").pressed(1, "\nx");
        with(into1, "{<2}{=C}[{^}]{/}", "{=A}{=C}x{/}{/}").pressed(0, "[x]");
        with(into1, "{<2}{=C}\n{^}{/}", "{=A}{=B}{=C}x{/}{/}{/}").fails("press(0)", "0.1.10 1.2.7").pressed(1, "\nx");
        // DEEP is ahead of what is in the part, or of NO BLOCK
        with(into1, "{=A}{=B}{=C}{>5}{^}{/}{/}{/}").fails("press(0)", "0.1.10 1.1.7");
        with(into1, "{=A}{=B}{=C}{^}{/}{/}{/}").fails("press(0)", "0.1.10 1.1.7").fails("press(1)", "1.1.8");
        // {? and {* are not of these, nor what is closed
        with(into1, "{=A}{=B}{?1}{*a d}{a}{/}{/}{/}{/}").pressed(0, "301020");
        with("{?1}{?1}{?1}{?1}{>1}" + ends, "{=A}{/}{=B}{/}{=C}{/}{=D}{/}{>2}{>2}{>2}{>2}{=A}{/}{=B}{/}{>3}", "", "x").pressed(0, "x");
        StringBuilder eight = new StringBuilder();
        for (int i = 0; i < 8; i++) eight.append("0.2.10 ");
        with("\n{>0}").fails("look(0, 0)", eight + "0.2.7").fails("press(0)", eight + "0.2.7");
        with("{=A}\n{=A}{/}{/}").fails("look(0, 0)", "0.2.7");
        // closed ones ahead of each
        with("{>1}{>1}{=A}{/}\n{>0}", "").fails("look(0, 0)", eight + "0.1.7");
    }

    static void steps() {
        Run.holds("STEPS: 300 PIECES with { were come to while PRINTED");
        // 1 + 6 * (1 + 6 * (1 + 6)) are 259
        String most = "{*a d}{*b d}{*c d}{h}{/}{/}{/}\n";
        Run r = new Run().list(3, 1, 2, 3, 4, 5, 6).templates(most).due("press(0)", 1).due("told(5)", 259);
        r.template(0, most + "{h}".repeat(40), 44).due("press(0)", 1).due("told(5)", 299);
        r = new Run().list(3, 1, 2, 3, 4, 5, 6).templates(most + "{h}".repeat(41) + "xyz").due("press(0)", 4).due("told(5)", 300);
        r = new Run().list(3, 1, 2, 3, 4, 5, 6).templates(most + "{h}".repeat(41) + "\n{h}");
        r.fails("press(0)", "0.3.6").due("told(5)", 300).due("look(0, 0)", 0);
        // the 301st would have another fault
        r = new Run().list(3, 1, 2, 3, 4, 5, 6).templates(most + "{h}".repeat(41) + "{#}").fails("press(0)", "0.2.6").due("told(5)", 300);
        // {<k} aside
        r = new Run().list(3, 1, 2, 3, 4, 5, 6).templates(most + "{h}".repeat(41), "{<0}", "{<1}").due("press(2)", 1).due("told(5)", 300);
        // from 0 on each time
        r.due("press(2)", 1).due("told(5)", 300);
    }

    static void stepsOfLooking() {
        Run.holds("or (counted apart, from 0 on) while LOOKED THROUGH ({<k} aside), and there is another one.");
        // 5 and 5 * 50 and 45
        String most = "{>1}".repeat(5) + "{h}".repeat(45);
        Run r = new Run().templates(most, "{h}".repeat(50)).due("look(0, 0)", 0).due("press(0)", 0).due("told(5)", 300);
        r.due("press(0)", 0).due("told(5)", 300);
        r = new Run().templates("\n" + most + "{h}", "{h}".repeat(50)).fails("look(0, 0)", "0.2.6");
        r.fails("press(0)", "0.2.6").due("told(5)", 0).due("press(1)", 0).due("told(5)", 50).fails("press(0)", "0.2.6").due("told(5)", 50);
        // both branches, and {<k} aside
        r = new Run().templates(most, "{?h}" + "{h}".repeat(24) + "{:}" + "{h}".repeat(25) + "{/}", "{<0}");
        r.due("look(2, 0)", 0).due("press(2)", 0).due("told(5)", 180);
        r = new Run().templates(most, "{?h}" + "{h}".repeat(25) + "{:}" + "{h}".repeat(25) + "{/}");
        r.fails("look(0, 0)", "0.1.6").fails("press(0)", "0.1.6").due("told(5)", 0);
        // a part that is the 301st: its own faults are not come to
        r = new Run().templates("{>1}".repeat(6) + "{>2}", "{h}".repeat(49)).fails("look(0, 0)", "0.1.6");
        r.due("drop(0)", 7).template(0, "{>1}".repeat(5) + "{>2}", 6).fails("look(0, 0)", "0.1.10 2.0.1");
    }

    static void budgets() {
        Run.holds("BUDGET: the PAGE would have more bytes than BUDGET (0 .. 400; 200 at first).");
        String hundred = "0123456789".repeat(10);
        Run r = new Run().templates("{>1}{>1}\n", hundred).due("told(2)", 200).fails("press(0)", "0.1.5");
        r.template(0, "{>1}{>1}", 2).due("press(0)", 200).due("page(199)", '9').due("page(200)", -1);
        r.due("budget(199)", 200).fails("press(0)", "0.1.10 1.1.5").due("told(0)", 200);
        r = new Run("budget(400)").templates("{>1}{>1}{>1}{>1}", hundred).due("press(0)", 400).due("page(399)", '9').due("page(400)", -1);
        r.template(0, "{>1}{>1}{>1}{>1}\n{'x'}", 5).fails("press(0)", "0.1.5").due("told(0)", 400);
        r = new Run("budget(0)").templates("", "x", "{a}{''}", "{'x'}").pressed(0, "").fails("press(1)", "1.1.5").pressed(2, "").fails("press(3)", "3.1.5");
        r.due("budget(1)", 0).pressed(1, "x").pressed(3, "x");
        // each byte of what is ESCAPED
        r = new Run("budget(3)").templates("{'<'}", "`{'`'}`", "{123}").due("press(0)", 3).fails("press(1)", "1.1.5").due("press(2)", 3);
        r.due("budget(2)", 3).fails("press(0)", "0.1.5").fails("press(2)", "2.1.5").page("123").due("budget(4)", 2).due("press(1)", 4);
        // looking through puts out nothing
        r.due("budget(0)", 4).due("look(0, 0)", 0).fails("press(0)", "0.1.5");
        r = new Run("budget(1)").templates("xyz{'xyz'}", "{?0}xyz{:}w{/}").due("look(0, 0)", 0).pressed(1, "w").fails("press(0)", "0.1.5");
    }

    static void pressed() {
        Run.holds("PRESSED, a TEMPLATE: LOOKED THROUGH from PLAIN; then PRINTED: THE PAGE is what is put out (nothing at first).");
        with("x").page("").due("told(6)", 0).due("told(7)", 0).pressed(0, "x").template(0, "", 0).pressed(0, "");
        // both have a fault: that of LOOKING is told
        with("{a|up}<").fails("press(0)", "0.0.3").due("told(5)", 0);
        with("{a|up}{?0}{>5}{/}").fails("press(0)", "0.1.10 5.0.1");
        with("x{>1}", ">").pressed(0, "x>");
        with("\"\"").due("look(0, 2)", 2).pressed(0, "\"\"");
        with("<").due("look(0, 1)", 1).fails("press(0)", "0.0.3");
    }

    static void latestWhy() {
        Run.holds("WHY: the FAULT of the latest call that was answered -20, with all links ahead of it, the outermost first (none at "
            + "first).");
        Run r = with("x", "{a|up}", "<").why("").due("press(0)", 1).why("");
        r.fails("press(1)", "1.1.2").pressed(0, "x").why("1.1.2").fails("look(2, 0)", "2.0.3").due("look(0, 0)", 0).why("2.0.3");
        r.feed("sum").refusedReading("filter(0)", -20, Run.REASONS).why("-1.0.2").filter(0, "inc:1", 1).why("-1.0.2");
        r.refused("press(6)", -1).refused("look(0, 4)", -2).why("-1.0.2").fails("press(5)", "5.0.1").feed("}").refusedReading("template(0)", -100);
        r.why("5.0.1").fails("press(1)", "1.1.2");
        // as many links as can be: six of each of nine TEMPLATES
        StringBuilder most = new StringBuilder();
        for (int i = 0; i < 9; i++) most.append("0.1.11 1.1.11 2.1.11 3.1.11 4.1.11 5.2.").append(i < 8 ? "10 " : "7");
        with("{<1}", "{<2}", "{<3}", "{<4}", "{<5}", "\n{>0}").fails("look(0, 0)", most.toString());
    }

    // ---- the promises

    static void press() {
        Run.holds("PRESSED: how many bytes THE PAGE has; -20 (THE PAGE stays). NONE.");
        Run r = with("abc", "ab{a|up}", "{<0}", "", "", "x").pressed(0, "abc");
        r.refused("press(6)", -1).refused("press(-1)", -1).refused("press(" + LEAST + ")", -1).refused("press(" + MOST + ")", -1);
        r.fails("press(1)", "1.1.2").page("abc").pressed(5, "x").pressed(3, "").fails("press(1)", "1.1.2").page("").pressed(2, "abc");
    }

    static void page() {
        Run.holds("Byte i of THE PAGE. NONE.");
        Run r = with("abc").refused("page(0)", -1).refused("page(-1)", -1).due("press(0)", 3);
        r.refused("page(0)", 'a').refused("page(2)", 'c').refused("page(3)", -1).refused("page(-1)", -1);
        r.refused("page(" + LEAST + ")", -1).refused("page(" + MOST + ")", -1);
        // bytes of a longer PAGE are there no more
        r.template(0, "x", 0).due("press(0)", 1).due("page(0)", 'x').due("page(1)", -1).due("page(2)", -1);
    }

    static void why() {
        Run.holds("Link i of WHY: what 0 its TEMPLATE, 1 its LINE, 2 its SORT. NONE.");
        Run r = with("\n{>5}").refused("why(0, 0)", -1).due("press(0)", -20);
        r.refused("why(0, 0)", 0).refused("why(0, 1)", 2).refused("why(0, 2)", 10);
        r.refused("why(1, 0)", 5).refused("why(1, 1)", 0).refused("why(1, 2)", 1);
        r.refused("why(2, 0)", -1).refused("why(-1, 0)", -1).refused("why(0, 3)", -1).refused("why(0, -1)", -1).refused("why(1, 3)", -1);
        for (int edge : new int[] {LEAST, MOST}) r.refused("why(" + edge + ", 0)", -1).refused("why(0, " + edge + ")", -1);
        // links of a longer one are there no more
        r.fails("press(5)", "5.0.1").due("why(1, 0)", -1).due("why(1, 2)", -1);
    }

    static void budget() {
        Run.holds("BUDGET becomes n (0 .. 400): what it was. BAD.");
        Run r = with("ab").due("press(0)", 2).refused("budget(-1)", -2).refused("budget(401)", -2);
        r.refused("budget(" + LEAST + ")", -2).refused("budget(" + MOST + ")", -2);
        r.due("budget(0)", 200).due("told(2)", 0).page("ab").refused("budget(401)", -2);
        r.due("budget(400)", 0).due("told(2)", 400).refused("budget(-1)", -2).due("budget(200)", 400).due("budget(200)", 200);
    }

    static void told() {
        Run.holds("What 0 bytes of THE PAGE, 1 links of WHY, 2 BUDGET, 3 TEMPLATES that hold something (bits), 4 bytes of THE TAPE, 5 STEPS "
            + "of the latest PRINTING (0 at first; of one that failed, too), 6 the sum of THE PAGE's bytes, 7 how many bytes 10 it "
            + "has. NONE.");
        Run r = new Run();
        long[] first = {0, 0, 200, 0, 0, 0, 0, 0};
        for (int what = 0; what < 8; what++) r.refused("told(" + what + ")", first[what]);
        r.refused("told(8)", -1).refused("told(-1)", -1).refused("told(" + LEAST + ")", -1).refused("told(" + MOST + ")", -1);
        r.templates("\n{'a'}\n{>5}", "{b}{b}{b|up}", "{b}", "\t\u000b", "", "~").due("budget(9)", 200).due("press(0)", 4).feed("xy");
        long[] then = {4, 0, 9, 63, 2, 2, 10 + 97 + 10 + 126, 2};
        for (int what = 0; what < 8; what++) r.refused("told(" + what + ")", then[what]);
        // of one that failed, too; and of the latest PRINTING, where LOOKING THROUGH failed
        r.fails("press(1)", "1.1.2").due("told(5)", 3).due("told(1)", 1).due("drop(5)", 0).fails("press(0)", "0.3.10 5.0.1");
        r.due("told(5)", 3).due("told(1)", 2).due("told(3)", 31).due("told(0)", 4).due("press(2)", 0).due("told(5)", 1).due("told(6)", 0);
        r.due("look(1, 0)", 0).due("told(5)", 1).due("press(3)", 2).due("told(5)", 0).due("told(6)", 20).due("told(7)", 0).due("told(1)", 2);
        // the greatest sum of a PAGE
        r = new Run("budget(400)").templates("{>1}{>1}{>1}{>1}", "\u007f".repeat(100)).due("press(0)", 400).due("told(6)", 400 * 127);
    }
}
