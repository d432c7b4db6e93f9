/** What the tests share: due answers, feeding, and reading a press's pages and reasons as texts. */
final class Check {
    private static int right = 0;
    private static int wrong = 0;

    private Check() {
    }

    static void due(String call, long got, long want) {
        if (got == want) {
            right++;
            return;
        }
        wrong++;
        System.out.println(call + " answered " + got + ", due is " + want);
    }

    static void due(String call, String got, String want) {
        if (got.equals(want)) {
            right++;
            return;
        }
        wrong++;
        System.out.println(call + " answered [" + got + "], due is [" + want + "]");
    }

    /** Prints the count, and ends with exit code 1 if an answer was not as due. */
    static void end() {
        System.out.println(right + " answers as due, " + wrong + " not");
        if (wrong != 0 || right == 0) System.exit(1);
    }

    static void feed(TemplatePress x, String text) {
        for (int i = 0; i < text.length(); i++) x.feed(text.charAt(i));
    }

    static int template(TemplatePress x, int k, String text) {
        feed(x, text);
        return x.template(k);
    }

    /** The press, with texts that are read without a fault as its TEMPLATES 0, 1 and so on. */
    static TemplatePress told(TemplatePress x, String... texts) {
        for (int k = 0; k < texts.length; k++) {
            int answer = template(x, k, texts[k]);
            due("template " + texts[k], answer < 0 ? answer : 0, 0);
        }
        return x;
    }

    static int text(TemplatePress x, int variable, String text) {
        feed(x, text);
        return x.text(variable);
    }

    static int filter(TemplatePress x, int variable, String text) {
        feed(x, text);
        return x.filter(variable);
    }

    static void list(TemplatePress x, int variable, int... items) {
        x.list(variable, items.length);
        for (int i = 0; i < items.length; i++) x.item(variable, i, items[i]);
    }

    static String shown(TemplatePress x, int variable) {
        StringBuilder bytes = new StringBuilder();
        for (int i = 0; i < x.of(variable, 1); i++) bytes.append((char) x.shown(variable, i));
        return bytes.toString();
    }

    static String page(TemplatePress x) {
        StringBuilder bytes = new StringBuilder();
        for (int i = 0; i < x.told(0); i++) bytes.append((char) x.page(i));
        return bytes.toString();
    }

    /** PRESSED: the page, or the reasons if it failed. */
    static String pressed(TemplatePress x, int k) {
        int answer = x.press(k);
        if (answer == -20) return "! " + why(x);
        due("press(" + k + ") and told(0)", answer, x.told(0));
        return page(x);
    }

    /** The links of WHY, each as template.line.sort. */
    static String why(TemplatePress x) {
        StringBuilder links = new StringBuilder();
        for (int i = 0; i < x.told(1); i++) {
            if (i > 0) links.append(' ');
            links.append(x.why(i, 0)).append('.').append(x.why(i, 1)).append('.').append(x.why(i, 2));
        }
        return links.toString();
    }
}
