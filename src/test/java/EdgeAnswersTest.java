/** Boundary cases of THE IMAGE, of "Answers" and of promises 29 and 30, one test for each sentence that names one. */
final class EdgeAnswersTest {
    private static final int LEAST = Integer.MIN_VALUE;
    private static final int MOST = Integer.MAX_VALUE;

    public static void main(String[] args) {
        Run.all(EdgeAnswersTest.class);
    }

    private static Run made() {
        Run r = new Run("number(0, 5)", "real(1, 1, 2)", "budget(77)", "row(0, 1, 2)", "set(0, 0, 9)").text(2, "text").list(3, 1, 2, 3);
        return r.template(0, "{a}\n", 1).template(4, "{<0}{b}", 2).pressed(0, "5\n");
    }

    // ---- "THE IMAGE"

    static void theImage() {
        Run.holds("THE IMAGE: VARIABLES, TEMPLATES, BUDGET, THE PAGE (WHY, STEPS of the latest PRINTING, THE TAPE, ROWS stay by undo()).");
        Run r = made().due("image()", 17);
        // each of them is another one behind it
        r.due("none(0)", 1).due("number(1, 4)", 2).text(2, "more").due("item(3, 1, 9)", 2).due("list(7, 6)", 0).due("drop(0)", 1);
        r.template(4, "{a|or:1}{b}{b}", 3).template(5, "{a|up}", 1).due("budget(400)", 77).pressed(4, "144").due("press(5)", -20);
        r.feed("abc").due("set(0, 0, 8)", 1).due("row(5, 2, 1)", 1);
        r.due("undo()", 17).shows(0, "5").shows(1, "0.500").shows(2, "text").shows(3, "1,2,3").due("of(7, 0)", 0);
        r.due("told(3)", 17).due("has(0, 0)", 1).due("has(4, 2)", 0).due("has(5, 0)", -3).due("told(2)", 77).page("5\n");
        // what stays
        r.why("5.1.2").due("told(5)", 1).due("told(4)", 3).due("get(0, 0)", 8).due("get(5, 0)", 0);
        r.due("text(7)", 0).shows(7, "abc").due("press(5)", -20).why("5.0.1").pressed(0, "5\n");
    }

    static void image() {
        Run.holds("`int image()`: THE IMAGE is taken: TEMPLATES that hold something (bits).");
        Run r = new Run().due("image()", 0).templates("", "", "", "", "", "").due("image()", 63).due("drop(0)", 0).due("image()", 62);
        // but for undo(), nothing shows it
        made().refused("image()", 17, "undo()");
        // a newer one is in its place
        r = made().due("image()", 17).due("number(0, 6)", 1).due("image()", 17).due("number(0, 7)", 1).due("undo()", 17).shows(0, "6");
    }

    static void undo() {
        Run.holds("`int undo()`: All is as THE IMAGE: likewise. STATE: there is none.");
        made().refused("undo()", -3);
        new Run().refused("undo()", -3).due("image()", 0).due("undo()", 0).template(1, "x", 0).due("undo()", 0).due("told(3)", 0);
        Run r = made().due("image()", 17).refused("undo()", 17);
        // as often as one likes
        for (int i = 0; i < 3; i++) {
            r.due("number(0, " + i + ")", 1).due("item(3, 0, 9)", 1).due("drop(4)", 2).template(0, "z", 0).pressed(0, "z");
            r.due("undo()", 17).shows(0, "5").shows(3, "1,2,3").due("has(4, 0)", 2).page("5\n").pressed(0, "5\n");
        }
    }

    // ---- "Answers"

    static void constants() {
        Run.holds("public static final int NONE = -1, BAD = -2, STATE = -3, FULL = -4; public static final long NO = Long.MIN_VALUE;");
        Check.due("NONE", TemplatePress.NONE, -1);
        Check.due("BAD", TemplatePress.BAD, -2);
        Check.due("STATE", TemplatePress.STATE, -3);
        Check.due("FULL", TemplatePress.FULL, -4);
        Check.due("NO", TemplatePress.NO, Long.MIN_VALUE);
    }

    static void theFirstOfThem() {
        Run.holds("the first that a call's words name (-5 is told only where none of them is); then -20.");
        Run r = made();
        String[] none = {"number(8, 1000001)", "real(8, 1, 0)", "list(8, 7)", "item(8, 9, 1000001)", "item(3, 3, 1000001)", "of(8, 9)",
            "has(6, 9)", "has(1, 7)", "look(6, 4)", "press(6)", "row(6, 0, 61)", "row(0, 3, 61)", "row(0, 3, -1)", "set(6, 99, 0)",
            "move(6, 0, 1, 0, -1)", "move(1, 0, 6, 0, -1)", "twin(1, 6)", "lay(6, -1)", "judge(6, -1)"};
        for (String call : none) r.refused(call, -1);
        r.refused("item(0, 9, 1000001)", -3).refused("item(3, 0, 1000001)", -2).refused("look(1, 4)", -2).refused("has(1, 2)", -3);
        r.refused("move(1, 0, 0, 9, 9)", -11).refused("set(1, 99, 0)", -11).refused("lay(1, -1)", -11).refused("judge(1, -1)", -11);
        r.due("row(1, 0, 1)", 1).refused("move(0, 9, 1, 9, 9)", -12);
        // -5 where none of them is
        r.refused("has(0, 2)", -5).refused("has(5, 2)", -3).refused("has(6, 2)", -1).refused("has(4, 2)", 0);
        r.due("lay(0, 0)", 2).refused("judge(0, 0)", -5).refused("judge(5, 0)", -11).refused("judge(6, 0)", -1);
        // then -20
        r.fails("look(1, 0)", "1.0.1").fails("press(1)", "1.0.1").feed("up").refused("filter(8)", -1).refusedReading("filter(0)", -20, Run.REASONS);
        StringBuilder tape = new StringBuilder();
        for (int i = 0; i < 160; i++) tape.append('x');
        new Run().feed(tape.toString()).refused("feed(128)", -2).refused("feed(1)", -4);
    }

    static void changesNothing() {
        Run.holds("What is answered so changes nothing but WHY, STEPS (and ROWS by BEYOND, as told)");
        Run r = made().template(1, "{?1}{@a=7}{*d d}{@b=a}{c|sum}{/}{/}", 5).due("image()", 19).feed("xy");
        r.refused("number(0, 1000001)", -2).refused("real(0, 1, 0)", -2).refused("list(0, 7)", -2).refused("item(3, 0, 1000001)", -2);
        r.refused("item(0, 0, 1)", -3).refused("item(3, 3, 1)", -1).refused("feed(0)", -2).refused("drop(2)", -3).refused("has(2, 0)", -3);
        r.refused("budget(401)", -2).refused("row(0, 0, 61)", -2).refused("row(0, 0, -1)", -14).refused("set(0, 2, 1)", -13);
        r.refused("move(0, 0, 0, 1, 2)", -13).refused("twin(1, 0)", -11).refused("lay(0, -1)", -13).refused("lay(0, 1)", -13, "get(0, 1)");
        // but WHY and STEPS: all else is as it was, THE PAGE and what names held, too
        r.refused("press(1)", -20, Run.REASONS).why("1.1.2").due("told(5)", 5).refused("look(2, 0)", -20, "why(", "told(1)").due("told(5)", 5);
        r.due("get(0, 1)", '5').due("told(4)", 2);
    }

    static void askedChangesNothing() {
        Run.holds("what is asked changes nothing but ROWS into which it is LAID.");
        Run r = made().due("image()", 17).feed("xy").due("press(1)", -20);
        String[] asked = {"of(0, 0)", "of(1, 1)", "of(2, 2)", "of(3, 3)", "shown(1, 0)", "shown(3, 4)", "has(0, 0)", "has(4, 2)", "look(0, 0)",
            "look(4, 3)", "page(0)", "page(9)", "why(0, 0)", "told(0)", "told(6)", "get(0, 0)", "get(5, 5)", "judge(0, 0)"};
        for (String call : asked) r.asked(call);
        r.refused("lay(0, 0)", 2, "get(0, ").due("get(0, 0)", '5').due("get(0, 1)", 10).due("row(1, 2, 3)", 1);
        r.refused("lay(1, 1)", 2, "get(1, ").due("get(1, 0)", 0).due("get(1, 1)", Float.floatToRawIntBits(53f));
    }

    static void theTapeIsEmpty() {
        Run.holds("-100 less the FAULT of a text; THE TAPE is empty behind each call that reads it.");
        Run r = new Run();
        r.feed("abc").due("text(0)", 0).due("told(4)", 0).feed("0123456789abcdefg").refusedReading("text(0)", -2).due("told(4)", 0);
        r.feed("a{b}").due("template(0)", 1).due("told(4)", 0).feed("a{b").refusedReading("template(0)", -103).due("told(4)", 0);
        r.feed("up").due("filter(0)", 3).due("told(4)", 0).feed("upp").refusedReading("filter(0)", -100).due("told(4)", 0);
        r.feed("sum").refusedReading("filter(0)", -20, Run.REASONS).due("told(4)", 0).feed("ab").due("clear()", 2).due("told(4)", 0);
        // the least and the greatest FAULT
        r.feed("}").refusedReading("template(0)", -100).feed("x".repeat(159) + "{").refusedReading("template(0)", -260);
        // calls that don't read it
        r = new Run().templates("x").feed("ab");
        for (String call : new String[] {"press(0)", "look(0, 0)", "image()", "undo()", "none(0)", "number(0, 1)", "real(0, 1, 2)", "list(0, 2)",
            "drop(0)", "budget(3)", "row(0, 0, 2)", "lay(0, 0)", "text(8)", "template(6)", "filter(8)"}) {
            r.make(call);
            r.due("told(4)", 2);
        }
        r.due("text(0)", 4).shows(0, "ab");
    }

    static void calls512() {
        Run.holds("An object is used for at most 512 calls after it has been made; what later calls answer is free.");
        Run r = new Run();
        for (int i = 0; i < 512; i++) r.due("budget(" + i % 401 + ")", i == 0 ? 200 : (i - 1) % 401);
        r = made().due("image()", 17).feed("x".repeat(160));
        for (int i = 0; i < 64; i++) r.due("press(0)", 2).due("look(4, 0)", 0).due("undo()", 17).due("shown(1, 0)", '0');
        r.due("text(0)", -2).due("press(4)", 2).page("5\n");
        // free, but nothing is thrown
        TemplatePress x = new TemplatePress();
        for (int i = 0; i < 2000; i++) {
            x.feed(i % 128);
            x.template(i % 6);
            x.press(i % 6);
            x.image();
            x.list(i % 8, i % 7);
            x.row(i % 6, i % 3, i % 61);
            x.lay(i % 6, i % 61);
        }
    }

    /** Whatever the numbers are: what is there is answered, and nothing is thrown. */
    static void anyNumbers() {
        Run.holds("Answers: NONE (-1) no such number; BAD (-2) a number is not as told; STATE (-3) as told; FULL (-4)");
        int[] edges = {LEAST, LEAST + 1, -1000001, -1000000, -100, -2, -1, 0, 1, 2, 3, 4, 5, 6, 7, 8, 16, 17, 59, 60, 61, 127, 128, 160, 161, 400,
            401, 1000000, 1000001, MOST - 1, MOST};
        for (String start : new String[] {"", "{<1}{a}", "{*a d}{=A}{#}{>1}{/}{/}"}) {
            for (int first : edges) {
                for (int second : edges) {
                    TemplatePress x = new TemplatePress();
                    Check.feed(x, start);
                    all(x, first, second);
                }
            }
        }
        Check.due("nothing is thrown", 0, 0);
    }

    private static void all(TemplatePress x, int a, int b) {
        x.template(a);
        x.number(a, b);
        x.real(b, a, b);
        x.list(a, b);
        x.item(a, b, a);
        x.of(a, b);
        x.shown(a, b);
        x.feed(a);
        x.feed(b);
        x.text(a);
        x.has(a, b);
        x.look(a, b);
        x.press(a);
        x.filter(b);
        x.page(a);
        x.why(a, b);
        x.budget(a);
        x.told(a);
        x.row(a, b, b);
        x.row(a, 2, b);
        x.set(a, b, (long) a << 32);
        x.get(a, b);
        x.move(a, b, a, b, a);
        x.move(a, b, b, a, b);
        x.twin(a, b);
        x.lay(a, b);
        x.judge(a, b);
        x.image();
        x.none(b);
        x.drop(a);
        x.undo();
        x.clear();
    }
}
