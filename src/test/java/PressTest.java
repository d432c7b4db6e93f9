/** Promises 16 and 18 to 21: press, page, why, budget, told. */
final class PressTest {
    public static void main(String[] args) {
        values();
        contexts();
        branches();
        comparisons();
        loops();
        names();
        blocks();
        parts();
        kindFaults();
        overAndLoopFaults();
        linksOfChains();
        budgets();
        steps();
        answers();
        Check.end();
    }

    private static TemplatePress filled() {
        TemplatePress x = new TemplatePress();
        x.number(0, 5);
        x.real(1, 5, 1);
        Check.text(x, 2, "a<&\"`\\;-Z");
        Check.list(x, 3, 30, 10, 20);
        x.list(4, 0);
        Check.text(x, 5, "");
        x.number(6, 0);
        return x;
    }

    private static void page(String text, String due) {
        TemplatePress x = filled();
        Check.template(x, 0, text);
        Check.due(text, Check.pressed(x, 0), due);
        Check.due("a behind " + text, x.of(0, 2), 5);
        Check.due("d behind " + text, Check.shown(x, 3), "30,10,20");
        Check.due("h behind " + text, x.of(7, 0), 0);
    }

    private static void values() {
        page("", "");
        page("x\ny;", "x\ny;");
        page("{a}|{b}|{d}|{e}|{h}|{'t u'}|{-7}|{00012}", "5|5.000|30,10,20|||t u|-7|12");
        page("{a|inc:2|mul:3}{d|sort|first}{'ab'|up|rev}", "2110BA");
        page("{h|or:3}{a|or:3}{-0}", "350");
    }

    private static void contexts() {
        page("{c}", "a&l;&a;\"`\\;-Z");
        page("<{c}{b}>{'<'}", "<a_______Z5_000>&l;");
        page("<\"{c}\"{'\"'}>", "<\"a&l;&a;&q;`\\;-Z\"_>");
        page("`{c}`{'`'}", "`a<&\"\\`\\\\;-Z``");
        page("<`{'`'}>", "<`_>");
        page(">\"{'\"'}", ">\"\"");
        page("<\"<>`{'>'}\">{'>'}", "<\"<>`>\">>");
        page("`<\"{'<'}`{'<'}", "`<\"<`&l;");
        page("{'<'}{'<'}", "&l;&l;");
        page("<{'<'}>{?a}<{'z'}>{/}{?g}<{'z'}>{/}{'<'}", "<_><z>&l;");
        page("<{'09azAZ/:@[`'}>", "<09azAZ_____>");
    }

    private static void branches() {
        page("{?a}x{/}{?g}x{/}{?h}x{/}{?b}x{/}{?f}x{/}{?e}x{/}{?c}x{/}{?d}x{/}", "xxxx");
        page("{?!a}x{:}y{/}{?!g}x{:}y{/}{?!h}x{/}{?!'0'}x{:}z{/}", "yxxz");
        page("{?a}{?g}1{:}2{/}{:}3{/}", "2");
        page("{?a|mul:0|real}x{:}y{/}", "y");
    }

    private static void comparisons() {
        page("{?a<6}x{/}{?a<5}x{/}{?a=5}y{/}{?a=6}y{/}", "xy");
        page("{?a=b}x{/}{?b=a}x{/}{?a<b}y{/}{?b<a|inc:1}z{/}", "xxz");
        page("{?1|third<1}x{/}{?0<1|third}x{/}{?1|third=1|third}x{/}", "xxx");
        page("{?'a'<'ab'}x{/}{?'ab'<'b'}x{/}{?'b'<'ab'}y{/}{?'ab'<'ab'}y{/}{?''<'a'}x{/}", "xxx");
        page("{?'ab'='ab'}x{/}{?'a'='ab'}y{/}{?''=f}x{/}{?'A'<'a'}x{/}", "xxx");
        page("{?-1<0}x{/}{?-1=-1}x{/}", "xx");
    }

    private static void loops() {
        page("{*a d}{#}:{a},{/}{a}", "0:30,1:10,2:20,5");
        page("{*a d}{*h d}{#}{/}{#};{:}{/}", "0120;0121;0122;");
        page("{*a e}x{:}none{/}", "none");
        page("{*a e}x{/}", "");
        page("{*a d}{*h e}{:}{#}{/}{/}", "012");
        page("{*a d}{*h d|cut:2}{/}{#}{/}", "012");
        page("{*h d|sort|cut:2}{h}.{/}{?h}x{:}y{/}", "10.20.y");
        page("{*d d}{d}.{/}{d}", "30.10.20.30,10,20");
        page("{*a d}{@d=e}{@a=#}{a}{/}{a}", "0125");
        page("{*a d}{?a}{*h d|cut:2|rev}{h}.{/}{/};{/}", "10.30.;10.30.;10.30.;");
        page("{*a d}{?g}{:}{*h d|cut:2|rev}{h}.{/}{/};{/}", "10.30.;10.30.;10.30.;");
        page("{*a d}{=A}{*h d|cut:2|rev}{h}.{/}{/};{/}", "10.30.;10.30.;10.30.;");
        page("{*a d}{*h e}{:}{*h d|cut:2|rev}{h}.{/}{/};{/}", "10.30.;10.30.;10.30.;");
        page("{*a d}{?a<15}{#}{/}{/}", "1");
    }

    private static void names() {
        page("{@h='z'}{h}{@h=a}{h}", "z5");
        page("{?a}{@h=1}{h}{/}{?h}x{:}y{/}", "1y");
        page("{?g}{:}{@h=1}{h}{/}{?h}x{:}y{/}", "1y");
        page("{*a e}{:}{@h=1}{h}{/}{?h}x{:}y{/}", "1y");
        page("{*h d}{?g}{/}{@a=a|inc:1}{a}{/}", "666");
        page("{=A}{@h=1}{h}{/}{?h}x{:}y{/}", "1y");
        page("{@a=6}{?a}{@a=7}{?a}{@a=8}{a}{/}{a}{/}{a}", "876");
        page("{@a=d}{@d=1}{a}{d}{*d a}{d}{/}{d}", "30,10,2013010201");
        TemplatePress x = filled();
        Check.template(x, 1, "{@h=h|or:3}{h}{@h=h|inc:1}");
        Check.template(x, 0, "{>1}{h}{@h=7}{>1}{h}");
        Check.due("names in parts", Check.pressed(x, 0), "377");
        manyNames();
    }

    /** Many presses of many names, some of which end with a fault. */
    private static void manyNames() {
        TemplatePress x = filled();
        Check.list(x, 3, 1, 2, 3, 4, 5, 6);
        Check.template(x, 0, "{*a d}{*b d}{@h=a|mul:10}{@h=h|inc:1}{@h=h|inc:5}{@c=h}{/}{/}{h}{c}{b}{a}");
        Check.template(x, 1, "{*a d}{*b d}{@h=a}{@c=h}{@d=c}{?a=6}{?b=6}{h|up}{/}{/}{/}{/}");
        for (int i = 0; i < 40; i++) {
            Check.due("many names", Check.pressed(x, 0), "a&l;&a;\"`\\;-Z5.0005");
            Check.due("many names and a fault", Check.pressed(x, 1), "! 1.1.2");
            Check.due("d behind", Check.shown(x, 3), "1,2,3,4,5,6");
            Check.due("h behind", x.of(7, 0), 0);
        }
        // 50 names at once in each of six parts
        StringBuilder b = new StringBuilder();
        for (int i = 0; i < 25; i++) b.append("{@b=b}");
        for (int k = 1; k < 6; k++) Check.template(x, k, b + (k < 5 ? "{>" + (k + 1) + "}" : "{b}"));
        Check.template(x, 0, "{@b=1}{>1}{@b=2}{>1}{b}");
        Check.due("names at once", Check.pressed(x, 0), "122");
        Check.due("b behind", Check.shown(x, 1), "5.000");
    }

    private static TemplatePress told(String... texts) {
        return Check.told(filled(), texts);
    }

    private static void blocks() {
        TemplatePress x = told("[{=A}base{/}|{=B}b{/}]", "{<0}{=A}one {^}{/}", "{<1}{=A}two {^}{=B}deep{/}{/}",
            "x{=A}1{/}{=A}2{/}{=A}3{/}", "{<2}{=B}4{^}{/}{=C}{/}");
        Check.due("the base itself", Check.pressed(x, 0), "[base|b]");
        Check.due("one on top", Check.pressed(x, 1), "[one base|b]");
        Check.due("two on top", Check.pressed(x, 2), "[two one basedeep|deep]");
        Check.due("the first one in it", Check.pressed(x, 3), "x111");
        Check.due("a block in between", Check.pressed(x, 4), "[two one base4deep|4deep]");
        x = told("{=A}{=B}in{/}{/}", "{<0}{=B}over{/}", "{<1}{=A}all{/}", "{<2}no{?a}{=A}a{^}{/}{/}no");
        Check.due("within a block", Check.pressed(x, 1), "over");
        Check.due("without it", Check.pressed(x, 2), "all");
        Check.due("anywhere in it", Check.pressed(x, 3), "aall");
        x = told("{*a d}{=A}{/}{/}", "{<0}{=A}{#}{a}.{/}");
        Check.due("loops around blocks", Check.pressed(x, 1), "030.110.220.");
        x = told("<{=A}{/}>", "{<0}{=A}{'<'}{/}");
        Check.due("contexts around blocks", Check.pressed(x, 1), "<_>");
        x = told("{=A}a{/}{=B}b{/}", "{<0}{=A}({=B}{/}{^}{=C}{/}{^}){/}");
        Check.due("{^} behind other blocks", Check.pressed(x, 1), "(aa)");
        x = told("{=A}0{/}", "{<0}", "{<1}{=A}2{^}{/}");
        Check.due("a TEMPLATE without one between", Check.pressed(x, 2), "20");
    }

    private static void parts() {
        TemplatePress x = told("{>1}-{*a d}{>1}{/}", "{a}{?h}{#}{/}{>2}", "{<3}{=A}two{/}", "[{=A}{/}]");
        Check.due("parts", Check.pressed(x, 0), "5[two]-30[two]10[two]20[two]");
        for (String around : new String[] {"{?1}", "{*b f}", "{?!1}{:}", "{*b e}{:}"}) {
            String[] texts = new String[6];
            for (int k = 0; k < 6; k++) texts[k] = "{@f=d|cut:1}" + around.repeat(4) + "(" + (k < 5 ? "{>" + (k + 1) + "}" : "{a}") + "){/}{/}{/}{/}";
            Check.due("six TEMPLATES of " + around, Check.pressed(told(texts), 0), "((((((5))))))");
        }
        x = told("{=A}{?1}{=C}{?1}{>1}{/}{/}{/}{/}", "{=A}{?1}{=C}{?1}{>2}{/}{/}{/}{/}", "{?1}{?1}{?1}{?1}{>3}{/}{/}{/}{/}",
            "{?1}{?1}{?1}{?1}{a}{/}{/}{/}{/}");
        Check.due("blocks in parts", Check.pressed(x, 0), "5");
        x = told("{*a d}{>1}{/}", "{#}{*h d}{#}{/};");
        Check.due("turns from where it was PRINTED", Check.pressed(x, 0), "0012;1012;2012;");
        x = told("{=A}0{>1}{/}", "{<2}{=A}1{/}", "{=A}2{/}");
        Check.due("a CHAIN of its own", Check.pressed(x, 0), "01");
        x = told("<{>1}>`{>1}`{>1}", "{'<'}");
        Check.due("contexts around parts", Check.pressed(x, 0), "<_>`<`&l;");
    }

    private static void kindFaults() {
        page("\n{?c<a}{/}", "! 0.2.2");
        page("{?d=d}{/}", "! 0.1.2");
        page("{?h=h}{/}", "! 0.1.2");
        page("{?h<1}{/}", "! 0.1.2");
        page("{?'1'=1}{/}", "! 0.1.2");
        page("{*h a}{/}", "! 0.1.2");
        page("{*h h}{/}", "! 0.1.2");
        page("{*h c}{/}", "! 0.1.2");
        page("\n\n{a|up}", "! 0.3.2");
        page("{?a}\n{@h=d|up}{/}", "! 0.2.2");
        page("{@h='\n'}{a|up}", "! 0.2.2");
        page("{@h='\n'|sum}", "! 0.1.2");
        page("{?g}{a|up}{/}x", "x");
        page("{?a|up<9|up}{/}", "! 0.1.2");
    }

    private static void overAndLoopFaults() {
        page("{99999|mul:11}", "! 0.1.4");
        page("{?a|inc:99999|mul:10}{/}", "! 0.1.4");
        page("{#}", "! 0.1.9");
        page("\n{*a #}{/}", "! 0.2.9");
        page("{*a d}{/}{#}", "! 0.1.9");
        page("{*a e}{:}{#}{/}", "! 0.1.9");
        page("{?g}{#}{/}", "");
        TemplatePress x = told("{<1}{*h d}{=A}{#}{/}{/}", "{=A}{/}");
        Check.due("a loop that is not gone through", Check.pressed(x, 0), "! 0.1.9");
    }

    private static void linksOfChains() {
        TemplatePress x = told("{<1}{=A}\n{a|up}{/}", "{<2}\n{=B}{>5}{/}", "{=A}{/}{=B}\n{#}{/}\n{>5}", "{>1}", "\n{>3}{>1}");
        Check.due("in the first of a CHAIN", Check.pressed(x, 0), "! 0.1.11 1.2.10 5.0.1");
        Check.template(x, 5, "x");
        Check.due("KIND in the first", Check.pressed(x, 0), "! 0.2.2");
        x.drop(2);
        Check.due("of a CHAIN that ends nowhere", Check.pressed(x, 0), "! 0.1.11 1.1.11 2.0.1");
        Check.due("in parts", Check.pressed(x, 4), "! 4.2.10 3.1.10 1.1.11 2.0.1");
        Check.due("why(3, 0)", x.why(3, 0), 2);
        Check.due("why(4, 0)", x.why(4, 0), -1);
        Check.due("why(-1, 0)", x.why(-1, 0), -1);
        Check.due("why(0, 3)", x.why(0, 3), -1);
        Check.due("why(0, -1)", x.why(0, -1), -1);
        Check.template(x, 2, "{=A}{/}\n{=B}{/}\n\n{99999|mul:11}");
        Check.due("OVER in the last of a CHAIN", Check.pressed(x, 1), "! 1.1.11 2.4.4");
        Check.due("OVER behind a part", Check.pressed(x, 4), "! 4.2.10 3.1.10 1.1.11 2.4.4");
        Check.template(x, 2, "{=A}\n{^}{/}");
        Check.template(x, 1, "{<2}{=A}\n{^}{/}");
        Check.template(x, 0, "{<1}{=A}{^}{/}");
        Check.due("NO BLOCK", Check.pressed(x, 0), "! 0.1.11 1.1.11 2.2.8");
    }

    private static void budgets() {
        TemplatePress x = told("ab\n{'cd<'}");
        Check.due("budget(401)", x.budget(401), -2);
        Check.due("budget(-1)", x.budget(-1), -2);
        Check.due("budget(8)", x.budget(8), 200);
        Check.due("just so many", Check.pressed(x, 0), "ab\ncd&l;");
        Check.due("budget(7)", x.budget(7), 8);
        Check.due("one more", Check.pressed(x, 0), "! 0.2.5");
        Check.due("THE PAGE stays", Check.page(x), "ab\ncd&l;");
        x.budget(2);
        Check.due("at a byte 10", Check.pressed(x, 0), "! 0.1.5");
        x.budget(0);
        Check.due("at the first byte", Check.pressed(x, 0), "! 0.1.5");
        Check.template(x, 0, "{?g}x{/}{h}");
        Check.due("none of none", Check.pressed(x, 0), "");
        Check.due("budget(400)", x.budget(400), 0);
        Check.template(x, 1, "0123456789012345678901234567890123456789");
        Check.template(x, 0, "{>1}{>1}{>1}{>1}{>1}{>1}{>1}{>1}{>1}{>1}");
        Check.due("400 bytes", x.press(0), 400);
        Check.due("page(399)", x.page(399), '9');
        Check.due("page(400)", x.page(400), -1);
        Check.template(x, 0, "{>1}{>1}{>1}{>1}{>1}\n{>1}{>1}{>1}{>1}{>1}");
        Check.due("401 bytes", Check.pressed(x, 0), "! 0.2.10 1.1.5");
    }

    private static void steps() {
        TemplatePress x = new TemplatePress();
        Check.list(x, 3, 1, 2, 3, 4, 5, 6);
        // 1 + 6 * (1 + 6 * (1 + 6)) = 259
        Check.template(x, 0, "{*a d}{*b d}{*c d}{h}{/}{/}{/}");
        Check.due("press", x.press(0), 0);
        Check.due("STEPS", x.told(5), 259);
        StringBuilder more = new StringBuilder("{*a d}{*b d}{*c d}{h}{/}{/}{/}\n");
        for (int i = 0; i < 41; i++) more.append("{h}");
        Check.template(x, 0, more.toString());
        Check.due("300 of them", x.press(0), 1);
        Check.due("STEPS", x.told(5), 300);
        Check.template(x, 0, more + "{h}");
        Check.due("301 of them", Check.pressed(x, 0), "! 0.2.6");
        Check.due("STEPS of one that failed", x.told(5), 300);
        Check.template(x, 0, "{h}{#}{h}");
        Check.due("NO LOOP", Check.pressed(x, 0), "! 0.1.9");
        Check.due("STEPS up to it", x.told(5), 2);
        Check.due("NO TEMPLATE", x.press(5), -20);
        Check.due("STEPS stay where nothing was PRINTED", x.told(5), 2);
        Check.due("look", x.look(0, 0), 0);
        Check.due("STEPS stay by look()", x.told(5), 2);
        Check.template(x, 1, "{<2}{=A}{h}{/}{=B}{/}");
        Check.template(x, 2, "{=A}{?a}{/}{/}{=A}{/}{@a=1}{>3}");
        Check.template(x, 3, "{*a d}{:}{/}");
        Check.due("press", x.press(1), 0);
        Check.due("STEPS, {<k} aside", x.told(5), 7);
    }

    private static void answers() {
        TemplatePress x = new TemplatePress();
        Check.due("press(6)", x.press(6), -1);
        Check.due("press(-1)", x.press(-1), -1);
        Check.due("no reasons by NONE", x.told(1), 0);
        Check.due("press(0)", x.press(0), -20);
        Check.due("WHY", Check.why(x), "0.0.1");
        Check.template(x, 0, "a\nb\n");
        Check.due("press(0)", x.press(0), 4);
        Check.due("WHY stays", Check.why(x), "0.0.1");
        long[] told = {4, 1, 200, 1, 0, 0, 97 + 98 + 20, 2, -1, -1};
        for (int what = 0; what < told.length; what++) Check.due("told(" + what + ")", x.told(what), told[what]);
        Check.due("told(-1)", x.told(-1), -1);
        Check.due("page(3)", x.page(3), 10);
        Check.due("page(4)", x.page(4), -1);
        Check.due("page(-1)", x.page(-1), -1);
        Check.template(x, 2, "c");
        Check.due("press(2)", x.press(2), 1);
        Check.due("the sum of a shorter PAGE", x.told(6), 99);
        Check.due("bytes 10 of a shorter PAGE", x.told(7), 0);
        Check.template(x, 2, "\nabc\n");
        x.press(2);
        Check.due("bytes 10", x.told(7), 2);
        x.press(0);
        Check.due("a failed one", x.press(1), -20);
        Check.due("THE PAGE stays", Check.page(x), "a\nb\n");
        Check.due("WHY is anew", Check.why(x), "1.0.1");
    }
}
