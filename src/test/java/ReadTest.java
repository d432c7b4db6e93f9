/** Promises 10 to 14: THE TAPE, and TEMPLATES that are read from it. */
final class ReadTest {
    public static void main(String[] args) {
        tape();
        goodTexts();
        faults();
        nesting();
        filterNames();
        kept();
        dropped();
        has();
        Check.end();
    }

    private static void reads(String text, int due) {
        TemplatePress x = new TemplatePress();
        Check.due("template of " + text, Check.template(x, 0, text), due);
        Check.due("THE TAPE behind " + text, x.told(4), 0);
        Check.due("what is held behind " + text, x.told(3), due < 0 ? 0 : 1);
    }

    private static void tape() {
        TemplatePress x = new TemplatePress();
        Check.due("feed(1)", x.feed(1), 1);
        Check.due("feed(127)", x.feed(127), 2);
        Check.due("feed(0)", x.feed(0), -2);
        Check.due("feed(128)", x.feed(128), -2);
        Check.due("feed(-1)", x.feed(-1), -2);
        Check.due("clear()", x.clear(), 2);
        Check.due("clear() of none", x.clear(), 0);
        for (int i = 1; i <= 160; i++) Check.due("feed", x.feed('a'), i);
        Check.due("feed of the 161st", x.feed('a'), -4);
        Check.due("BAD ahead of FULL", x.feed(0), -2);
        Check.due("told(4)", x.told(4), 160);
        Check.due("template(6)", x.template(6), -1);
        Check.due("template(-1)", x.template(-1), -1);
        Check.due("THE TAPE stays by NONE", x.told(4), 160);
        Check.due("template of 160 bytes", x.template(5), 0);
        Check.due("has(5, 6)", x.has(5, 6), 160);
        Check.due("feed behind template", x.feed('a'), 1);
    }

    private static void goodTexts() {
        reads("", 0);
        reads("a;b\n", 0);
        reads("{a}{#}{12345}{-1}{'x'}{''}", 6);
        reads("{'0123456789abcdef'}", 1);
        reads("{-00000}", 1);
        reads("{<5}{<5", -105);
        reads("{<5}{=A}{^}{/}", 3);
        reads("{?a}x{:}y{/}", 1);
        reads("{?!a|len}{/}", 1);
        reads("{?a|up<'b'|low}{:}{/}", 1);
        reads("{?#=-3}{b}{:}{c}{/}", 3);
        reads("{*h a|sort|cut:3}{h}{:}{/}", 2);
        reads("{=D}{?a}{^}{/}{/}", 3);
        reads("{>0}{>5}{@h='='}", 3);
        reads("{a|cut:00000|pad:16|inc:99999|mul:1|or:0}", 1);
        reads("{a|up|low|rev|len|half|third|int|real|bits|first|last|sum|sort}", 1);
    }

    private static void faults() {
        reads("}", -100);
        reads("a}", -101);
        reads("{", -101);
        reads("{}", -101);
        reads("{ a}", -101);
        reads("{i}", -101);
        reads("{A}", -101);
        reads("{ab}", -102);
        reads("{a", -102);
        reads("{-}", -102);
        reads("{--1}", -102);
        reads("{123456}", -106);
        reads("{-123456}", -107);
        reads("{1a}", -102);
        reads("{#1}", -102);
        reads("{'0123456789abcdefg'}", -118);
        reads("{'a}'}", -103);
        reads("{'a{'}", -103);
        reads("{'a", -103);
        reads("{'a'b}", -104);
        reads("a{<1}", -102);
        reads("{<6}", -102);
        reads("{<1", -103);
        reads("{<", -102);
        reads("{<1}{", -105);
        reads("{>6}", -102);
        reads("{>}", -102);
        reads("{@a1}", -103);
        reads("{@i=1}", -102);
        reads("{@a=}", -104);
        reads("{@a=1=2}", -105);
        reads("{@a=1<2}", -105);
        reads("{*a}", -103);
        reads("{*a  b}", -104);
        reads("{* a b}", -102);
        reads("{*a !b}", -104);
        reads("{a<b}", -102);
        reads("{?}", -102);
        reads("{?!}", -103);
        reads("{?!!a}", -103);
        reads("{?!a<b}", -104);
        reads("{?!a=b}", -104);
        reads("{?a<b<c}", -105);
        reads("{?a<}", -104);
        reads("{?a>b}", -103);
        reads("{/}", -101);
        reads("{:}", -101);
        reads("{?a}{/a", -106);
        reads("{?a}{:a", -106);
        reads("{?a}{:}{:}{/}", -108);
        reads("{=A}{:}{/}", -105);
        reads("{=A}{?b}{:}{/}{:}{/}", -115);
        reads("{?a}{=A}{:}", -109);
        reads("{*a b}{:}{:}", -110);
        reads("{^}", -101);
        reads("{?a}{^}{/}", -105);
        reads("{=A}{/}{^}", -108);
        reads("{=A}{^a}", -106);
        reads("{=E}", -102);
        reads("{=a}", -102);
        reads("{=A}x", -105);
        reads("{?a}{:}x", -108);
    }

    private static void nesting() {
        reads("{?a}{?a}{?a}{?a}x{/}{/}{/}{/}", 4);
        reads("{?a}{*a b}{=A}{?a}{a}{>1}{^}{@a=1}{/}{/}{/}{/}", 8);
        reads("{?a}{?a}{?a}{?a}{*a b}", -117);
        reads("{?a}{?a}{?a}{?a}{=A}", -117);
        reads("{?a}{?a}{?a}{?a}{/}{?a}{/}{/}{/}{/}", 5);
        reads("{?a}{:}{?a}{:}{?a}{:}{?a}{:}{?a}", -129);
    }

    private static void filterNames() {
        reads("{a|}", -103);
        reads("{a|u", -103);
        reads("{a|", -103);
        reads("{a|up", -105);
        reads("{a|upp}", -103);
        reads("{a|Up}", -103);
        reads("{a|up|}", -106);
        reads("{a|up|lo}", -106);
        reads("{a|up:1}", -105);
        reads("{a|cut}", -106);
        reads("{a|cut:}", -107);
        reads("{a|cut:-1}", -107);
        reads("{a|cut:123456}", -112);
        reads("{a|cuts:1}", -103);
        reads("{a|cut1}", -106);
        reads("{a|up }", -105);
        reads("{?a|up<b|lows}", -109);
    }

    private static void kept() {
        TemplatePress x = new TemplatePress();
        Check.template(x, 2, "{a}{b}");
        Check.due("template of a faulty text", Check.template(x, 2, "{a}{"), -104);
        Check.due("the TEMPLATE stays", x.has(2, 0), 2);
        Check.due("another one in its place", Check.template(x, 2, "c"), 0);
        Check.due("has(2, 6)", x.has(2, 6), 1);
    }

    private static void dropped() {
        TemplatePress x = new TemplatePress();
        Check.template(x, 1, "{a}{b}");
        Check.template(x, 5, "");
        Check.due("told(3)", x.told(3), 34);
        Check.due("drop(1)", x.drop(1), 2);
        Check.due("drop(1) again", x.drop(1), -3);
        Check.due("drop(5)", x.drop(5), 0);
        Check.due("drop(6)", x.drop(6), -1);
        Check.due("drop(-1)", x.drop(-1), -1);
        Check.due("told(3) behind", x.told(3), 0);
        Check.due("has(1, 0) behind", x.has(1, 0), -3);
    }

    private static void has() {
        TemplatePress x = new TemplatePress();
        String text = "{<4}\n{=D}{a}{/}{=B}{^}{/}{?b|len=c}{:}{/}\n{>0}{>5}{*d e}{/}{@f='\ng'}";
        Check.due("template", Check.template(x, 3, text), 10);
        long[] due = {10, 4, 4, 10, 33, 63, text.length()};
        for (int what = 0; what < 7; what++) Check.due("has(3, " + what + ")", x.has(3, what), due[what]);
        Check.due("has(3, 7)", x.has(3, 7), -1);
        Check.due("has(3, -1)", x.has(3, -1), -1);
        Check.due("has(6, 0)", x.has(6, 0), -1);
        Check.due("has(0, 7): NONE ahead of STATE", x.has(0, 7), -1);
        Check.due("has(0, 0)", x.has(0, 0), -3);
        Check.template(x, 0, "{'abc'}gh{#}");
        Check.due("what it EXTENDS, nothing", x.has(0, 2), -5);
        Check.due("no VARIABLES in texts and bytes", x.has(0, 5), 0);
        Check.template(x, 0, "{=A}{/}{=C}{=A}{/}{/}");
        Check.due("B's", x.has(0, 3), 5);
        Check.template(x, 0, "{h}{?g<f}{/}");
        Check.due("VARIABLES", x.has(0, 5), 224);
    }
}
