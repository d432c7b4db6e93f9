/** Promise 15: look, and that pressing looks through ahead of printing. */
final class LookTest {
    public static void main(String[] args) {
        answers();
        pieces();
        branchesAndLoops();
        wholes();
        blocks();
        deep();
        mostLinks();
        chains();
        steps();
        nothingWorkedOut();
        Check.end();
    }

    private static TemplatePress told(String... texts) {
        return Check.told(new TemplatePress(), texts);
    }

    private static String looked(TemplatePress x, int k, int context) {
        int answer = x.look(k, context);
        return answer == -20 ? "! " + Check.why(x) : "" + answer;
    }

    private static void looks(String text, int context, String due) {
        TemplatePress x = told(text, "<", ">");
        Check.due(text + " from " + context, looked(x, 0, context), due);
    }

    private static void answers() {
        TemplatePress x = told("a");
        for (int c = 0; c < 4; c++) Check.due("look(0, " + c + ")", x.look(0, c), c);
        Check.due("look(0, 4)", x.look(0, 4), -2);
        Check.due("look(0, -1)", x.look(0, -1), -2);
        Check.due("look(6, 4)", x.look(6, 4), -1);
        Check.due("look(-1, 0)", x.look(-1, 0), -1);
        Check.due("BAD ahead of -20", x.look(5, 4), -2);
        Check.due("no reasons", x.told(1), 0);
        Check.due("NO TEMPLATE", looked(x, 5, 0), "! 5.0.1");
        Check.due("look(0, 0)", x.look(0, 0), 0);
        Check.due("WHY stays", Check.why(x), "5.0.1");
        Check.due("THE PAGE stays", x.told(0), 0);
    }

    private static void pieces() {
        looks("<>", 0, "0");
        looks("<\"<`>\">", 0, "0");
        looks("`<\">`", 0, "0");
        looks("\"`>", 0, "! 0.0.3");
        looks("><", 1, "1");
        looks("\"\"", 1, "1");
        looks("\"\"", 2, "2");
        looks("\"`\"", 2, "2");
        looks("``", 3, "3");
        looks("`", 3, "! 0.0.3");
        looks("\n<", 0, "! 0.0.3");
        looks("<", 1, "1");
        looks("<\"", 2, "! 0.0.3");
        looks("{'<'}", 0, "0");
        looks("{@a='<'}", 0, "0");
    }

    private static void branchesAndLoops() {
        looks("{?a}<{:}<{/}>", 0, "0");
        looks("{?a}<{/}>", 0, "! 0.1.3");
        looks("\n{?a}<{:}`{/}>", 0, "! 0.2.3");
        looks("{?a}{:}<{/}", 0, "! 0.1.3");
        looks("{?a}{?b}\n{?c}<{/}{/}{/}", 0, "! 0.2.3");
        looks("{*a b}<>{/}", 0, "0");
        looks("{*a b}<{/}>", 0, "! 0.1.3");
        looks("{*a b}{:}<{/}>", 0, "! 0.1.3");
        looks("{*a b}<{:}<{/}>", 0, "! 0.1.3");
        looks("{*a b}<{:}\n{>5}{/}", 0, "! 0.1.3");
        looks("{?a}<{:}\n{>5}{/}", 0, "! 0.2.10 5.0.1");
        looks("<{*a b}>{:}{/}", 0, "! 0.1.3");
        looks("{*a b}>{/}<", 1, "! 0.1.3");
    }

    private static void wholes() {
        TemplatePress x = told("<{>1}>", "\"{?a}{/}\"", "\n{>3}", "<");
        Check.due("a part in a TAG", looked(x, 0, 0), "0");
        Check.due("a part that does not end as it began", looked(x, 2, 0), "! 2.2.10 3.0.3");
        Check.due("that from a TAG", looked(x, 3, 1), "1");
        Check.due("press looks through ahead of all", Check.pressed(x, 2), "! 2.2.10 3.0.3");
        x = told("{<1}{=A}<{/}\n", "{<2}", "\n{=A}{/}>");
        Check.due("of {=B}", looked(x, 0, 0), "! 0.1.11 1.1.11 2.2.3");
        Check.due("from a TAG", looked(x, 0, 1), "! 0.0.3");
        x = told("{<1}", "{<2}", "<");
        Check.due("a CHAIN as a whole is its first", looked(x, 0, 0), "! 0.0.3");
        Check.template(x, 3, "{>0}");
        Check.due("that in a part", looked(x, 3, 0), "! 3.1.10 0.0.3");
    }

    private static void blocks() {
        TemplatePress x = told("{=A}{/}{=B}{?a}<{/}{/}", "{<0}{=B}x{/}", "{<1}\n{=B}\n{^}<{/}", "{<1}{=B}>{^}{/}",
            "{<1}{=A}\n{^}<>{^}{/}");
        Check.due("a fault in a block", looked(x, 0, 0), "! 0.1.3");
        Check.due("it is put aside by one on top", looked(x, 1, 0), "0");
        Check.due("{=B} is the PIECE, where it stands", looked(x, 2, 0), "! 2.1.11 1.1.11 0.1.3");
        Check.due("in a TAG", looked(x, 3, 1), "! 3.1.11 1.1.11 0.1.3");
        Check.due("{^} twice", looked(x, 4, 0), "0");
        x = told("{=A}<{/}", "{<0}{=A}\n{^}{/}");
        Check.due("{^} is the PIECE", looked(x, 1, 0), "! 1.2.3");
        x = told("{=A}{=B}\n{^}{/}{/}");
        Check.due("NO BLOCK", looked(x, 0, 0), "! 0.2.8");
    }

    private static void deep() {
        TemplatePress x = told("\n{>0}");
        StringBuilder due = new StringBuilder("!");
        for (int i = 0; i < 8; i++) due.append(" 0.2.10");
        Check.due("a part of itself", looked(x, 0, 0), due + " 0.2.7");
        x = told("{=A}\n{=A}{/}{/}");
        Check.due("a block in itself", looked(x, 0, 0), "! 0.2.7");
        Check.due("that is pressed", Check.pressed(x, 0), "! 0.2.7");
        x = told("{=A}{=B}{=C}{=D}{>1}{/}{/}{/}{/}", "{=A}{=B}{=C}{?a}{>2}{/}{/}{/}{/}", "");
        Check.due("8 of them", looked(x, 1, 0), "0");
        Check.due("{>2} within 8 others", looked(x, 0, 0), "! 0.1.10 1.1.7");
        Check.template(x, 1, "{=A}{=B}{>2}{/}{/}");
        Check.due("the 8th of them", looked(x, 0, 0), "0");
        Check.template(x, 1, "{=A}{=B}{>2}{^}{/}{/}");
        Check.due("NO BLOCK behind a part", looked(x, 0, 0), "! 0.1.10 1.1.8");
        Check.template(x, 1, "{=A}{=B}{=C}\n{^}{/}{/}{/}");
        Check.due("{^} within 8 others", looked(x, 0, 0), "! 0.1.10 1.2.7");
        Check.template(x, 1, "{=A}{=B}{=C}{=D}{/}{/}{/}{/}");
        Check.due("{=D} within 8 others", looked(x, 0, 0), "! 0.1.10 1.1.7");
        Check.template(x, 1, "{=A}{=B}{=C}{?a}{/}{/}{/}{/}");
        Check.due("branches aside", looked(x, 0, 0), "0");
        Check.template(x, 1, "{=A}{/}{=B}{/}{=C}{/}{=D}{/}{>2}{>2}{>2}{>2}{>2}");
        Check.due("one behind another", looked(x, 0, 0), "0");
        Check.template(x, 1, "{=A}{/}{>2}{=B}{/}{=C}\n{=D}{=A}{/}{>2}{>3}{/}{/}");
        Check.template(x, 3, "{>2}");
        Check.due("one behind another, and within 8", looked(x, 0, 0), "! 0.1.10 1.2.10 3.1.7");
    }

    /** As many links as can be: six for each of nine TEMPLATES within one another. */
    private static void mostLinks() {
        TemplatePress x = told("{<1}", "{<2}", "{<3}", "{<4}", "{<5}", "\n\n{>0}");
        StringBuilder due = new StringBuilder("!");
        for (int i = 0; i < 9; i++) {
            for (int k = 0; k < 5; k++) due.append(" ").append(k).append(".1.11");
            due.append(i < 8 ? " 5.3.10" : " 5.3.7");
        }
        Check.due("as many links as can be", looked(x, 0, 0), due.toString());
        Check.due("told(1)", x.told(1), 54);
        for (String around : new String[] {"{?1}", "{*a d}", "{?1}{:}", "{*a d}{:}"}) {
            x = told(around.repeat(4) + "\n{>0}{/}{/}{/}{/}");
            due = new StringBuilder("!");
            for (int i = 0; i < 8; i++) due.append(" 0.2.10");
            Check.due("itself within four of " + around, looked(x, 0, 0), due + " 0.2.7");
        }
    }

    private static void chains() {
        TemplatePress x = told("{<1}", "{<2}", "{<3}", "{<4}", "{<5}", "x");
        Check.due("a CHAIN of six", looked(x, 0, 0), "0");
        Check.template(x, 5, "{<0}");
        Check.due("the 6th EXTENDS another one", looked(x, 0, 0), "! 0.1.11 1.1.11 2.1.11 3.1.11 4.1.11 5.1.7");
        Check.template(x, 3, "{<3}");
        Check.due("one that EXTENDS itself", looked(x, 3, 0), "! 3.1.11 3.1.11 3.1.11 3.1.11 3.1.11 3.1.7");
        x.drop(5);
        Check.template(x, 3, "{<4}");
        Check.due("the 6th holds nothing", looked(x, 0, 0), "! 0.1.11 1.1.11 2.1.11 3.1.11 4.1.11 5.0.1");
    }

    private static void steps() {
        StringBuilder text = new StringBuilder("{?h}");
        for (int i = 0; i < 48; i++) text.append("{h}");
        text.append("{:}{h}{/}");
        // 50 each, and one for each part
        TemplatePress x = told("{>1}{>1}{>1}{>1}{>1}{h}{h}", text.toString());
        Check.due("in both branches", x.look(0, 0), 0);
        StringBuilder most = new StringBuilder("{>1}{>1}{>1}{>1}{>1}\n");
        for (int i = 0; i < 45; i++) most.append("{h}");
        Check.due("template", Check.template(x, 0, most.toString()), 50);
        Check.due("300 of them", looked(x, 0, 0), "0");
        Check.due("fewer of them when PRINTED", x.press(0), 1);
        Check.due("STEPS of the PRINTING alone", x.told(5), 60);
        Check.template(x, 0, most + "{h}");
        Check.due("301 of them", looked(x, 0, 0), "! 0.2.6");
        x = told("{*a b}{h}{:}{h}{/}");
        Check.due("a loop once", x.look(0, 0), 0);
    }

    private static void nothingWorkedOut() {
        TemplatePress x = told("{#}{a|up}{*a 5}{/}{?a<b}{/}{99999|mul:99999}{@a=a|sum}");
        Check.due("no E is worked out", x.look(0, 0), 0);
        Check.due("but when PRINTED", Check.pressed(x, 0), "! 0.1.9");
        x.budget(0);
        Check.template(x, 0, "abc");
        Check.due("nothing is put out", x.look(0, 0), 0);
    }
}
