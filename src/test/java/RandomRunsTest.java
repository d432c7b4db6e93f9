import java.util.Random;

/** Runs of calls drawn from fixed seeds, answered by the press and by the model of the document. */
final class RandomRunsTest {
    private static final String[] FILTERS = {"up", "low", "rev", "len", "cut:2", "pad:4", "pad:20", "inc:3", "mul:7",
        "mul:99999", "half", "third", "int", "real", "bits", "first", "last", "sum", "sort", "or:5", "cut:0", "mul:0"};
    private static final String BYTES = "ab;& \n\\-,x01Z";
    private static final String MOVES = "<>\"`";
    private static final String SIGNS = "{}{}|:'?*=^>@</#!abh A0-9,+\n";

    private final Random random;
    private final TemplatePress press = new TemplatePress();
    private final Model model = new Model();
    private final StringBuilder log = new StringBuilder();
    private boolean agrees = true;
    // the TEMPLATE that is being written: parts and bases are mostly behind it, so that few go round in circles
    private int writing = 0;

    private RandomRunsTest(long seed) {
        random = new Random(seed);
    }

    public static void main(String[] args) {
        int from = args.length > 2 ? Integer.parseInt(args[1]) : 0;
        int to = args.length > 2 ? Integer.parseInt(args[2]) : 6000;
        int wrong = 0;
        int[] kinds = new int[12];
        for (int seed = from; seed < to && wrong < 5; seed++) {
            RandomRunsTest run = new RandomRunsTest(seed);
            run.run(kinds);
            if (!run.agrees) {
                wrong++;
                System.out.println("seed " + seed + ":\n" + run.log);
            }
        }
        StringBuilder line = new StringBuilder("presses by the sort of their last link (0: pressed):");
        for (int n : kinds) line.append(' ').append(n);
        System.out.println(line);
        System.out.println((to - from) + " runs, " + wrong + " wrong");
        if (wrong != 0) System.exit(1);
    }

    private void same(String call, long got, long want) {
        if (!agrees) return;
        log.append("  ").append(call).append(" -> ").append(got);
        if (got != want) {
            agrees = false;
            log.append(", the model says ").append(want);
        }
        log.append('\n');
    }

    private int below(int n) {
        return random.nextInt(n);
    }

    private boolean chance(int percent) {
        return below(100) < percent;
    }

    private String pick(String... of) {
        return of[below(of.length)];
    }

    // ---- texts

    private String operand() {
        switch (below(9)) {
            case 0: return "#";
            case 1: return pick("0", "-3", "7", "12345", "-99999", "00");
            case 2: return pick("'ab'", "''", "'<&\"`\\'", "'0123456789abcdef'", "'b\n'", "'12 x'");
            case 3: return pick("d", "e");
            default: return "" + (char) ('a' + below(8));
        }
    }

    private String filters() {
        StringBuilder b = new StringBuilder(pick(FILTERS));
        for (int i = below(4); i > 0; i--) b.append('|').append(pick(FILTERS));
        return b.toString();
    }

    private String expression() {
        return chance(25) ? operand() + "|" + filters() : operand();
    }

    private String test() {
        if (chance(25)) return "!" + expression();
        if (chance(40)) return expression();
        return chance(80) ? pick("#", "1", "a", "b|or:3", "5") + pick("<", "=") + pick("2", "a", "a|real", "1")
            : expression() + pick("<", "=") + expression();
    }

    private String pieces(int depth, boolean inBlock, int n) {
        StringBuilder b = new StringBuilder();
        for (int i = 0; i < n; i++) b.append(piece(depth, inBlock));
        return b.toString();
    }

    private String inner(int depth, boolean inBlock) {
        return pieces(depth + 1, inBlock, below(4));
    }

    private String piece(int depth, boolean inBlock) {
        switch (below(depth > 3 ? 8 : 14)) {
            case 0: return chance(15) ? "" + MOVES.charAt(below(4)) : "" + BYTES.charAt(below(BYTES.length()));
            case 1: return pick("<i>", "<i t=\"{a}{b}\">", "`{c}`", "<{a}>", "<b>", "\n", "ab\n");
            case 2: case 3: return "{" + expression() + "}";
            case 4: return "{@" + (char) ('a' + below(8)) + "=" + expression() + "}";
            case 5: return inBlock ? "{^}" : "{a}";
            case 6: return chance(50) ? "{>" + another() + "}" : "x";
            case 7: return "" + BYTES.charAt(below(BYTES.length()));
            case 8: case 9: return "{?" + test() + "}" + inner(depth, inBlock) + "{/}";
            case 10: return "{?" + test() + "}" + inner(depth, inBlock) + "{:}" + inner(depth, inBlock) + "{/}";
            case 11: return "{*" + (char) ('a' + below(4)) + " " + pick("d", "e", "d", "e|sort", expression()) + "}"
                + inner(depth, inBlock) + (chance(30) ? "{:}" + inner(depth, inBlock) : "") + "{/}";
            default: return "{=" + (char) ('A' + below(chance(80) ? 2 : 4)) + "}" + inner(depth, true) + "{/}";
        }
    }

    private String changed(String text) {
        StringBuilder b = new StringBuilder(text);
        for (int i = 1 + below(2); i > 0; i--) {
            int at = below(b.length() + 1);
            char sign = SIGNS.charAt(below(SIGNS.length()));
            switch (below(4)) {
                case 0: b.insert(at, sign); break;
                case 1: if (at < b.length()) b.deleteCharAt(at); break;
                case 2: if (at < b.length()) b.setCharAt(at, sign); break;
                default: b.setLength(at); break;
            }
        }
        return b.toString();
    }

    private int another() {
        return writing >= 5 || chance(5) ? below(6) : writing + 1 + below(5 - writing);
    }

    private String manySteps() {
        String part = "{>" + another() + "}";
        return pick("{*a d}{*b d}{*c e}{*d e|or:1}" + piece(4, false) + "{/}{/}{/}{/}", part + part + part + part + "\n" + part,
            "{*a d}{*b e}{*c d}{#}{b}{:}" + part + "{/}{/}\n{/}{a}", "{*a d}{*b e}" + part + "{/}{/}" + part);
    }

    private String templateText() {
        if (writing == 5 || chance(4)) return pick("{*a d}{*b e}{*c d}{b}{/}{/}{/}", "x", "<{=A}x{/}>", "{=A}b{=B}{a}{/}{/}{=B}{/}",
            "{*a d}{*b e}{#}{=A}{@c=b}{/}{c}{/}{/}", "{=A}\n{=B}{#}{/}{/}{>4}{*h e}{=A}{/}{/}", "{d}{d}{d}{d}{e}{e}`{g}{h}{d}`");
        if (chance(12)) return manySteps();
        String base = chance(45) ? "{<" + another() + "}" : "";
        String text = base + pieces(0, false, 1 + below(6));
        if (chance(10)) text = "{<" + below(6) + "}" + pick("{=A}{^}{/}", "{=A}{>1}{^}{/}", "{=B}{=A}{/}{^}{/}");
        return chance(25) ? changed(text) : text;
    }

    // ---- calls

    private void feed(String text) {
        for (int i = 0; i < text.length(); i++) {
            int letter = text.charAt(i);
            if (model.told(4) == 160) break;
            same("feed(" + letter + ")", press.feed(letter), model.feed(letter));
        }
    }

    private int any(int n) {
        return chance(4) ? odd(n) : below(n);
    }

    private int odd(int n) {
        int[] odd = {-1, n, n + 1, Integer.MIN_VALUE, Integer.MAX_VALUE};
        return odd[below(odd.length)];
    }

    private void defineTemplate(int k) {
        writing = k >= 0 && k < 6 ? k : 0;
        String text = templateText();
        if (text.length() > 160) text = text.substring(0, 160);
        log.append("  [").append(text.replace("\n", "\\n")).append("]\n");
        feed(text);
        same("template(" + k + ")", press.template(k), model.template(k));
        for (int what = 0; what < 7; what++) same("has(" + k + "," + what + ")", press.has(k, what), model.has(k, what));
    }

    private void pressAndCompare(int[] kinds) {
        int k = any(6);
        int answer = press.press(k);
        same("press(" + k + ")", answer, model.press(k));
        compare();
        if (k < 0 || k > 5) return;
        int links = press.told(1);
        kinds[answer >= 0 ? 0 : Math.max(0, press.why(links - 1, 2))]++;
    }

    private void compare() {
        for (int what = -1; what < 9; what++) same("told(" + what + ")", press.told(what), model.told(what));
        for (int i = -1; i <= model.told(0); i++) {
            if (press.page(i) != model.page(i)) same("page(" + i + ")", press.page(i), model.page(i));
        }
        for (int i = -1; i <= model.told(1); i++) {
            for (int what = 0; what < 3; what++) same("why(" + i + "," + what + ")", press.why(i, what), model.why(i, what));
        }
        for (int v = 0; v < 8; v++) {
            for (int what = 0; what < 4; what++) same("of(" + v + "," + what + ")", press.of(v, what), model.of(v, what));
            for (int i = 0; i <= model.of(v, 1); i++) same("shown(" + v + "," + i + ")", press.shown(v, i), model.shown(v, i));
        }
    }

    private int whole() {
        int[] some = {0, 1, -1, 5, -7, 120, 999999, 1000000, -1000000, 1000001, Integer.MIN_VALUE, Integer.MAX_VALUE};
        return chance(50) ? some[below(some.length)] : below(4000) - 2000;
    }

    private void giveVariable() {
        int v = any(8);
        int a = whole();
        int b = whole();
        switch (below(6)) {
            case 0: same("none(" + v + ")", press.none(v), model.none(v)); return;
            case 1: same("number(" + v + "," + a + ")", press.number(v, a), model.number(v, a)); return;
            case 2: same("real(" + v + "," + a + "," + b + ")", press.real(v, a, b), model.real(v, a, b)); return;
            case 3:
                feed(pick("abc", "", "<&\"`\\;", "0123456789abcdef", "0123456789abcdefg", "A1b2", "b"));
                same("text(" + v + ")", press.text(v), model.text(v));
                return;
            case 4: giveList(chance(60) ? 3 + below(2) : v); return;
            default:
                String f = chance(20) ? changed(filters()) : filters();
                log.append("  [").append(f).append("]\n");
                feed(f);
                same("filter(" + v + ")", press.filter(v), model.filter(v));
                compare();
                return;
        }
    }

    private void giveList(int v) {
        int n = chance(90) ? below(5) : any(7);
        same("list(" + v + "," + n + ")", press.list(v, n), model.list(v, n));
        for (int i = 0; i < 4; i++) {
            int at = any(6);
            int to = whole();
            same("item(" + v + "," + at + "," + to + ")", press.item(v, at, to), model.item(v, at, to));
        }
    }

    private void useRows() {
        int r = any(6) % 3;
        int o = any(6) % 3;
        int i = chance(70) ? below(4) : any(60);
        int j = chance(70) ? below(4) : any(60);
        int n = chance(70) ? below(6) : any(62);
        int s = any(3);
        long v = chance(50) ? whole() : random.nextLong();
        switch (below(7)) {
            case 0: same("row(" + r + "," + s + "," + n + ")", press.row(r, s, n), model.row(r, s, n)); return;
            case 1: same("set(" + r + "," + i + "," + v + ")", press.set(r, i, v), model.set(r, i, v)); break;
            case 2: same("move(" + r + "," + i + "," + o + "," + j + "," + n + ")", press.move(r, i, o, j, n),
                model.move(r, i, o, j, n)); break;
            case 3: same("twin(" + r + "," + o + ")", press.twin(r, o), model.twin(r, o)); break;
            case 4: case 5: same("lay(" + r + "," + i + ")", press.lay(r, i), model.lay(r, i)); break;
            default: break;
        }
        same("judge(" + r + "," + i + ")", press.judge(r, i), model.judge(r, i));
        for (int row = 0; row < 3; row++) {
            for (int p = -1; p < 61; p++) {
                if (press.get(row, p) != model.get(row, p)) same("get(" + row + "," + p + ")", press.get(row, p), model.get(row, p));
            }
        }
    }

    private void run(int[] kinds) {
        for (int i = 0; i < 6; i++) giveVariable();
        giveList(3);
        giveList(4);
        for (int k = 5; k >= 0; k--) defineTemplate(k);
        for (int i = 0; i < 40 && agrees; i++) {
            switch (below(12)) {
                case 0: case 1: giveVariable(); break;
                case 2: case 3: case 4: defineTemplate(any(6)); break;
                case 5: case 6: case 7: pressAndCompare(kinds); break;
                case 8: useRows(); break;
                case 9: lookAndCompare(); break;
                case 10: odds(); break;
                default: useImage(); break;
            }
        }
        compare();
    }

    private void lookAndCompare() {
        int k = any(6);
        int c = any(4);
        same("look(" + k + "," + c + ")", press.look(k, c), model.look(k, c));
        compare();
    }

    private void odds() {
        int k = any(6);
        int n = chance(60) ? below(60) : chance(80) ? 200 : any(401);
        int letter = any(140);
        if (chance(5)) same("drop(" + k + ")", press.drop(k), model.drop(k));
        same("budget(" + n + ")", press.budget(n), model.budget(n));
        if (chance(50)) same("budget(400)", press.budget(400), model.budget(400));
        same("feed(" + letter + ")", press.feed(letter), model.feed(letter));
        if (chance(70)) same("clear()", press.clear(), model.clear());
    }

    private void useImage() {
        if (chance(50)) same("image()", press.image(), model.image());
        else if (chance(50)) same("undo()", press.undo(), model.undo());
        compare();
    }
}
