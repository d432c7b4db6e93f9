/** Promises 29 and 30: image and undo. */
final class ImageTest {
    public static void main(String[] args) {
        whatIsOfIt();
        whatStays();
        twice();
        Check.end();
    }

    private static TemplatePress made() {
        TemplatePress x = new TemplatePress();
        x.number(0, 5);
        x.real(1, 1, 2);
        Check.text(x, 2, "text");
        Check.list(x, 3, 1, 2, 3);
        Check.template(x, 0, "{a}\n");
        Check.template(x, 4, "{<0}{b}");
        x.budget(77);
        x.press(0);
        return x;
    }

    private static void whatIsOfIt() {
        TemplatePress x = made();
        Check.due("image()", x.image(), 17);
        x.none(0);
        x.number(1, 4);
        Check.text(x, 2, "more");
        x.item(3, 1, 9);
        x.number(7, 1);
        x.drop(0);
        Check.template(x, 4, "other{a}{a}{a}");
        Check.template(x, 5, "x");
        x.budget(78);
        x.press(5);
        Check.due("undo()", x.undo(), 17);
        Check.due("a", Check.shown(x, 0), "5");
        Check.due("b", Check.shown(x, 1), "0.500");
        Check.due("c", Check.shown(x, 2), "text");
        Check.due("d", Check.shown(x, 3), "1,2,3");
        Check.due("h", x.of(7, 0), 0);
        Check.due("told(3)", x.told(3), 17);
        Check.due("has(4, 2)", x.has(4, 2), 0);
        Check.due("has(0, 0)", x.has(0, 0), 1);
        Check.due("budget", x.told(2), 77);
        Check.due("page", Check.page(x), "5\n");
        Check.due("lines of the page", x.told(7), 1);
        Check.due("press behind undo", x.press(4), 2);
    }

    private static void whatStays() {
        TemplatePress x = made();
        x.image();
        Check.template(x, 5, "{h}{h}{a|up}");
        Check.due("press(5)", x.press(5), -20);
        x.row(1, 1, 2);
        x.set(1, 0, 8);
        Check.feed(x, "abc");
        Check.due("undo()", x.undo(), 17);
        Check.due("WHY stays", Check.why(x), "5.1.2");
        Check.due("STEPS stay", x.told(5), 3);
        Check.due("THE TAPE stays", x.told(4), 3);
        Check.due("ROWS stay", x.get(1, 0), 8);
    }

    private static void twice() {
        TemplatePress x = made();
        Check.due("undo() without one", x.undo(), -3);
        Check.due("nothing changed", x.of(0, 2), 5);
        x.image();
        x.number(0, 6);
        x.undo();
        x.number(0, 7);
        x.item(3, 0, 9);
        Check.due("undo() again", x.undo(), 17);
        Check.due("a", x.of(0, 2), 5);
        Check.due("d", Check.shown(x, 3), "1,2,3");
        x.number(0, 8);
        x.drop(4);
        Check.due("image() anew", x.image(), 1);
        x.number(0, 9);
        Check.due("undo()", x.undo(), 1);
        Check.due("a", x.of(0, 2), 8);
        x = new TemplatePress();
        Check.due("image() of a new object", x.image(), 0);
        Check.template(x, 0, "x");
        Check.due("undo()", x.undo(), 0);
        Check.due("told(3)", x.told(3), 0);
    }
}
