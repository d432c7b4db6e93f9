import java.util.ArrayDeque;
import java.util.ArrayList;
import java.util.Arrays;
import java.util.Collections;
import java.util.Deque;
import java.util.List;
import java.util.regex.Matcher;
import java.util.regex.Pattern;

/**
 * The document once more, written another way: values are Java's own objects, texts are cut by regular
 * expressions, faults are exceptions, names are held in copies. RandomRunsTest compares the press with it.
 */
final class Model {
    private static final String NAMES = "up|low|rev|len|half|third|int|real|bits|first|last|sum|sort";
    private static final String COUNTED = "cut|pad|inc|mul|or";
    private static final List<String> ALL_NAMES =
        Arrays.asList((NAMES + "|" + COUNTED).split("\\|"));
    private static final String FILTER = "(?:(?:" + NAMES + ")|(?:" + COUNTED + "):\\d{1,5})";
    private static final String OPERAND = "(?:[a-h]|#|-?\\d{1,5}|'[^'{}]{0,16}')";
    private static final String E = OPERAND + "(?:\\|" + FILTER + ")*";
    private static final Pattern FILTERS = Pattern.compile(FILTER + "(?:\\|" + FILTER + ")*");
    private static final Pattern FIRST_E = Pattern.compile("^(" + E + ")(?:([<=])(" + E + "))?$", Pattern.DOTALL);

    private static final class Node {
        String head;            // what stands between { and }, or the byte itself
        boolean isByte;
        int line;
        List<Node> inner = new ArrayList<>();
        List<Node> other;       // behind {:}
        char kind() {
            return isByte ? 'b' : "?*=^>@<".indexOf(head.charAt(0)) >= 0 ? head.charAt(0) : 'e';
        }
    }

    private static final class Parsed {
        String text;
        List<Node> nodes = new ArrayList<>();
        List<Node> all = new ArrayList<>();
        int base() {
            return text.startsWith("{<") ? text.charAt(2) - '0' : -5;
        }
        Node block(char letter) {
            for (Node n : all) if (n.kind() == '=' && n.head.charAt(1) == letter) return n;
            return null;
        }
    }

    private static final class Fault extends RuntimeException {
        private static final long serialVersionUID = 1;
        final List<int[]> links = new ArrayList<>();
        Fault(List<int[]> ahead, int template, int line, int sort) {
            super(null, null, false, false);
            links.addAll(ahead);
            links.add(new int[] {template, line, sort});
        }
    }

    // ---- state

    private Object[] values = new Object[8];
    private Parsed[] templates = new Parsed[6];
    private int budget = 200;
    private String page = "";
    private String tape = "";
    private List<int[]> why = new ArrayList<>();
    private int stepsPrinted = 0;
    private Object[] rows = new Object[6];
    private Object[] image = null;

    private static int sort(Object v) {
        return v == null ? 0 : v instanceof Integer ? 1 : v instanceof Float ? 2 : v instanceof String ? 3 : 4;
    }

    @SuppressWarnings("unchecked")
    private static List<Integer> ints(Object v) {
        return (List<Integer>) v;
    }

    private static Float limited(float f) {
        float g = Math.max(-1000000f, Math.min(1000000f, f));
        return g == 0f ? 0f : g;
    }

    private static String show(Object v) {
        if (v == null) return "";
        if (v instanceof Float) {
            float f = (Float) v;
            float amount = Math.abs(f);
            int whole = (int) amount;
            return (f < 0 ? "-" : "") + whole + "." + String.format("%03d", (int) ((amount - whole) * 1000f));
        }
        if (v instanceof List) {
            StringBuilder b = new StringBuilder();
            for (Integer i : ints(v)) b.append(b.length() > 0 ? "," : "").append(i);
            return b.toString();
        }
        return v.toString();
    }

    private static boolean isTrue(Object v) {
        switch (sort(v)) {
            case 0: return false;
            case 1: return (Integer) v != 0;
            case 2: return (Float) v != 0f;
            case 3: return !((String) v).isEmpty();
            default: return !ints(v).isEmpty();
        }
    }

    // ---- variables

    private int given(int v, Object value) {
        int had = sort(values[v]);
        values[v] = value;
        return had;
    }

    private static boolean no(int i, int n) {
        return i < 0 || i >= n;
    }

    int none(int v) {
        return no(v, 8) ? -1 : given(v, null);
    }

    int number(int v, int n) {
        return no(v, 8) ? -1 : Math.abs((long) n) > 1000000 ? -2 : given(v, n);
    }

    int real(int v, int a, int b) {
        return no(v, 8) ? -1 : b == 0 ? -2 : given(v, limited((float) a / (float) b));
    }

    int text(int v) {
        if (no(v, 8)) return -1;
        String read = tape;
        tape = "";
        return read.length() > 16 ? -2 : given(v, read);
    }

    int list(int v, int n) {
        return no(v, 8) ? -1 : no(n, 7) ? -2 : given(v, new ArrayList<>(Collections.nCopies(n, 0)));
    }

    int item(int v, int i, int n) {
        if (no(v, 8)) return -1;
        if (sort(values[v]) != 4) return -3;
        if (no(i, ints(values[v]).size())) return -1;
        if (Math.abs((long) n) > 1000000) return -2;
        List<Integer> changed = new ArrayList<>(ints(values[v]));
        int was = changed.set(i, n);
        values[v] = changed;
        return was;
    }

    int of(int v, int what) {
        if (no(v, 8) || no(what, 4)) return -1;
        Object value = values[v];
        if (what == 0) return sort(value);
        if (what == 1) return show(value).length();
        if (what == 3) return isTrue(value) ? 1 : 0;
        switch (sort(value)) {
            case 0: return 0;
            case 1: return (Integer) value;
            case 2: return Float.floatToIntBits((Float) value);
            case 3: return ((String) value).length();
            default: return ints(value).size();
        }
    }

    int shown(int v, int i) {
        return no(v, 8) || no(i, show(values[v]).length()) ? -1 : show(values[v]).charAt(i);
    }

    // ---- reading

    int feed(int letter) {
        if (letter < 1 || letter > 127) return -2;
        if (tape.length() == 160) return -4;
        tape += (char) letter;
        return tape.length();
    }

    int clear() {
        int n = tape.length();
        tape = "";
        return n;
    }

    private static boolean canGoOn(Pattern pattern, String text) {
        Matcher m = pattern.matcher(text);
        return m.matches() || m.hitEnd();
    }

    /** What may stand between { and } at a place, as a regular expression. */
    private static Pattern tags(Deque<Character> around, int at) {
        boolean turns = !around.isEmpty() && (around.peek() == '?' || around.peek() == '*');
        int state = (around.size() < 4 ? 1 : 0) + (around.contains('=') ? 2 : 0) + (at == 0 ? 4 : 0)
            + (around.isEmpty() ? 8 : 0) + (turns ? 16 : 0);
        return TAGS.computeIfAbsent(state, s -> tagsAnew(around, at));
    }

    private static final java.util.Map<Integer, Pattern> TAGS = new java.util.HashMap<>();

    private static Pattern tagsAnew(Deque<Character> around, int at) {
        StringBuilder p = new StringBuilder("\\{(?:" + E);
        if (around.size() < 4) p.append("|\\?(?:!").append(E).append("|").append(E).append("(?:[<=]").append(E).append(")?)");
        if (around.size() < 4) p.append("|\\*[a-h] ").append(E).append("|=[A-D]");
        if (around.contains('=')) p.append("|\\^");
        p.append("|>[0-5]|@[a-h]=").append(E);
        if (at == 0) p.append("|<[0-5]");
        if (!around.isEmpty()) p.append("|/");
        if (!around.isEmpty() && (around.peek() == '?' || around.peek() == '*')) p.append("|:");
        return Pattern.compile(p.append(")\\}").toString(), Pattern.DOTALL);
    }

    /** Whether some T begins with the text; 2 if it is one as it stands. */
    private static int judgeStart(String text) {
        Deque<Character> around = new ArrayDeque<>();
        int at = 0;
        while (at < text.length()) {
            char c = text.charAt(at);
            if (c == '}') return 0;
            if (c != '{') {
                at++;
                continue;
            }
            int end = text.indexOf('}', at);
            if (end < 0) return canGoOn(tags(around, at), text.substring(at)) ? 1 : 0;
            String tag = text.substring(at, end + 1);
            if (!tags(around, at).matcher(tag).matches()) return 0;
            char kind = tag.charAt(1);
            if (kind == '?' || kind == '*' || kind == '=') around.push(kind);
            if (kind == '/') around.pop();
            if (kind == ':') {
                around.pop();
                around.push(':');
            }
            at = end + 1;
        }
        return around.isEmpty() ? 2 : 1;
    }

    /** Whether FILTERS begin with the text; 2 if it is some as it stands. */
    private static int judgeFilters(String text) {
        return FILTERS.matcher(text).matches() ? 2 : canGoOn(FILTERS, text) ? 1 : 0;
    }

    private static int judge(String text, boolean isFilters) {
        return isFilters ? judgeFilters(text) : judgeStart(text);
    }

    /** -1: none. */
    static int faultOf(String text, boolean isFilters) {
        for (int n = 0; n <= text.length(); n++) {
            String start = text.substring(0, n);
            if (judge(start, isFilters) == 0) return n - 1;
            boolean named = isFilters && n == 0;
            if (n > 0 && start.charAt(n - 1) == '|') {
                named = judge(start + "%", isFilters) == 0 && judge(start + "'", isFilters) == 0;
            }
            if (named) {
                int end = n;
                while (end < text.length() && text.charAt(end) >= 'a' && text.charAt(end) <= 'z') end++;
                if (!ALL_NAMES.contains(text.substring(n, end))) return n;
            }
        }
        return judge(text, isFilters) == 2 ? -1 : text.length();
    }

    private static Parsed parse(String text) {
        Parsed parsed = new Parsed();
        parsed.text = text;
        Deque<Node> open = new ArrayDeque<>();
        Deque<List<Node>> into = new ArrayDeque<>();
        into.push(parsed.nodes);
        Matcher m = Pattern.compile("\\{([^{}]*)\\}|([^{}])", Pattern.DOTALL).matcher(text);
        while (m.find()) {
            String head = m.group(1);
            if ("/".equals(head)) {
                open.pop();
                into.pop();
                continue;
            }
            if (":".equals(head)) {
                into.pop();
                open.peek().other = new ArrayList<>();
                into.push(open.peek().other);
                continue;
            }
            Node node = new Node();
            node.isByte = head == null;
            node.head = head == null ? m.group(2) : head;
            node.line = 1 + (int) text.substring(0, m.start()).chars().filter(c -> c == 10).count();
            into.peek().add(node);
            parsed.all.add(node);
            if (node.kind() == '?' || node.kind() == '*' || node.kind() == '=') {
                open.push(node);
                into.push(node.inner);
            }
        }
        return parsed;
    }

    int template(int k) {
        if (no(k, 6)) return -1;
        String read = tape;
        tape = "";
        int fault = faultOf(read, false);
        if (fault >= 0) return -100 - fault;
        templates[k] = parse(read);
        return has(k, 0);
    }

    int drop(int k) {
        if (no(k, 6)) return -1;
        int had = has(k, 0);
        templates[k] = null;
        return had;
    }

    int has(int k, int what) {
        if (no(k, 6) || no(what, 7)) return -1;
        Parsed p = templates[k];
        if (p == null) return -3;
        int bits = 0;
        int nodes = 0;
        for (Node n : p.all) {
            if (!n.isByte) nodes++;
            if (what == 3 && n.kind() == '=') bits |= 1 << (n.head.charAt(1) - 'A');
            if (what == 4 && n.kind() == '>') bits |= 1 << (n.head.charAt(1) - '0');
            if (what == 5) bits |= namesIn(n);
        }
        switch (what) {
            case 0: return nodes;
            case 1: return 1 + (int) p.text.chars().filter(c -> c == 10).count();
            case 2: return p.base();
            case 6: return p.text.length();
            default: return bits;
        }
    }

    private static int namesIn(Node n) {
        int bits = 0;
        String rest = n.isByte || "=^><".indexOf(n.kind()) >= 0 ? "" : n.head;
        if (n.kind() == '*' || n.kind() == '@') {
            bits |= 1 << (rest.charAt(1) - 'a');
            rest = rest.substring(3);
        }
        if (n.kind() == '?') rest = rest.substring(rest.startsWith("?!") ? 2 : 1);
        for (String e : sides(rest)) {
            if (!e.isEmpty() && e.charAt(0) >= 'a' && e.charAt(0) <= 'h') bits |= 1 << (e.charAt(0) - 'a');
        }
        return bits;
    }

    /** Both E's of a C, with the sign between in the middle; one alone otherwise. */
    private static String[] sides(String c) {
        Matcher m = FIRST_E.matcher(c);
        if (!m.matches() || m.group(2) == null) return new String[] {c};
        return new String[] {m.group(1), m.group(2), m.group(3)};
    }

    // ---- filters

    /** The VALUE made of one; a String that begins with ! would be a TEXT, so faults are thrown as sorts. */
    private static final class Sort extends RuntimeException {
        private static final long serialVersionUID = 1;
        final int sort;
        Sort(int sort) {
            super(null, null, false, false);
            this.sort = sort;
        }
    }

    private static Integer counted(long n) {
        if (n > 1000000 || n < -1000000) throw new Sort(4);
        return (int) n;
    }

    private static Object apply(Object v, String filter) {
        String name = filter.split(":")[0];
        int n = filter.contains(":") ? Integer.parseInt(filter.split(":")[1]) : 0;
        if (name.equals("or")) return v == null ? (Integer) n : v;
        switch (sort(v)) {
            case 1: return applyInt((Integer) v, name, n);
            case 2: return applyReal((Float) v, name, n);
            case 3: return applyText((String) v, name, n);
            case 4: return applyList(ints(v), name, n);
            default: throw new Sort(2);
        }
    }

    private static Object applyInt(int v, String name, int n) {
        switch (name) {
            case "inc": return counted((long) v + n);
            case "mul": return counted((long) v * n);
            case "half": return v / 2;
            case "third": return limited((float) v / 3.0f);
            case "int": return v;
            case "real": return limited((float) v);
            case "bits": return (int) (Double.doubleToLongBits((double) v) >> 32) / 4096;
            default: throw new Sort(2);
        }
    }

    private static Object applyReal(float v, String name, int n) {
        switch (name) {
            case "inc": return limited(v + n);
            case "mul": return limited(v * n);
            case "half": return limited(v * 0.5f);
            case "third": return limited(v / 3.0f);
            case "int": return (int) v;
            case "real": return v;
            case "bits": return Float.floatToIntBits(v) / 4096;
            default: throw new Sort(2);
        }
    }

    private static Object applyText(String v, String name, int n) {
        switch (name) {
            case "up": return v.toUpperCase(java.util.Locale.ROOT);
            case "low": return v.toLowerCase(java.util.Locale.ROOT);
            case "rev": return new StringBuilder(v).reverse().toString();
            case "len": return v.length();
            case "cut": return v.substring(0, Math.min(n, v.length()));
            case "pad": return v + " ".repeat(Math.max(0, Math.min(n, 16) - v.length()));
            case "int": return v.replaceAll("[^0-9]", "").length();
            case "first": return v.isEmpty() ? "" : v.substring(0, 1);
            case "last": return v.isEmpty() ? "" : v.substring(v.length() - 1);
            default: throw new Sort(2);
        }
    }

    private static Object applyList(List<Integer> v, String name, int n) {
        List<Integer> w = new ArrayList<>(v);
        switch (name) {
            case "rev": Collections.reverse(w); return w;
            case "len": return w.size();
            case "cut": return new ArrayList<>(w.subList(0, Math.min(n, w.size())));
            case "first": return w.isEmpty() ? null : w.get(0);
            case "last": return w.isEmpty() ? null : w.get(w.size() - 1);
            case "sum": return counted(w.stream().mapToLong(i -> i).sum());
            case "sort": Collections.sort(w); return w;
            default: throw new Sort(2);
        }
    }

    int filter(int v) {
        if (no(v, 8)) return -1;
        String read = tape;
        tape = "";
        int fault = faultOf(read, true);
        if (fault >= 0) return -100 - fault;
        Object made = values[v];
        try {
            for (String filter : read.split("\\|")) made = apply(made, filter);
        } catch (Sort s) {
            why = new ArrayList<>();
            why.add(new int[] {-1, 0, s.sort});
            return -20;
        }
        values[v] = made;
        return sort(made);
    }

    // ---- looking through and printing

    /** One going through a TEMPLATE. */
    private final class Run {
        final boolean looking;
        int steps = 0;
        int context;
        StringBuilder out = new StringBuilder();
        Object[] env;

        Run(boolean looking, int context) {
            this.looking = looking;
            this.context = context;
            env = values.clone();
        }

        /** Where a T stands: its CHAIN, which of it, the block around, what led there, what is open, the turn. */
        final class Where {
            List<Integer> chain = new ArrayList<>();
            int j;
            char letter;
            List<int[]> ahead;
            int open;
            Integer turn;

            Where at(int newJ, char newLetter) {
                Where w = new Where();
                w.chain = chain;
                w.j = newJ;
                w.letter = newLetter;
                w.ahead = ahead;
                w.open = open + 1;
                w.turn = turn;
                return w;
            }

            Where turned(Integer t) {
                Where w = at(j, letter);
                w.open = open;
                w.turn = t;
                return w;
            }

            List<int[]> links() {
                List<int[]> l = new ArrayList<>(ahead);
                for (int i = 0; i < j; i++) l.add(new int[] {chain.get(i), 1, 11});
                return l;
            }

            Fault fault(int line, int sort) {
                return new Fault(links(), chain.get(j), line, sort);
            }
        }

        void template(int k, List<int[]> ahead, int open, Integer turn) {
            Where w = new Where();
            w.ahead = ahead;
            w.open = open;
            w.turn = turn;
            w.chain.add(k);
            while (true) {
                w.j = w.chain.size() - 1;
                Parsed p = templates[w.chain.get(w.j)];
                if (p == null) throw w.fault(0, 1);
                if (p.base() < 0) break;
                if (w.chain.size() == 6) throw w.fault(1, 7);
                w.chain.add(p.base());
            }
            int from = context;
            all(templates[w.chain.get(w.j)].nodes, w);
            w.j = 0;
            if (context != from) throw w.fault(0, 3);
        }

        void all(List<Node> nodes, Where w) {
            if (nodes == null) return;
            Object[] was = env.clone();
            for (Node n : nodes) one(n, w);
            env = was;
        }

        void same(int from, Node n, Where w) {
            if (context != from) throw w.fault(n.line, 3);
        }

        void one(Node n, Where w) {
            if (n.isByte) {
                put(n.head, n, w);
                char c = n.head.charAt(0);
                String moves = "0<1 0`3 1>0 1\"2 2\"1 3`0";
                int found = moves.indexOf("" + context + c);
                if (found >= 0 && found % 4 == 0) context = moves.charAt(found + 2) - '0';
                return;
            }
            if (n.kind() == '<') return;
            if (steps == 300) throw w.fault(n.line, 6);
            steps++;
            int from = context;
            switch (n.kind()) {
                case 'e':
                    if (!looking) putEscaped(show(workOut(n.head, n, w)), n, w);
                    return;
                case '@':
                    if (!looking) env[n.head.charAt(1) - 'a'] = workOut(n.head.substring(3), n, w);
                    return;
                case '?':
                    branch(n, w);
                    return;
                case '*':
                    if (looking) {
                        all(n.inner, w);
                        same(from, n, w);
                        all(n.other, w);
                        same(from, n, w);
                    } else {
                        loop(n, w);
                    }
                    return;
                case '>':
                    if (w.open == 8) throw w.fault(n.line, 7);
                    List<int[]> ahead = w.links();
                    ahead.add(new int[] {w.chain.get(w.j), n.line, 10});
                    template(n.head.charAt(1) - '0', ahead, w.open + 1, w.turn);
                    return;
                default:
                    if (w.open == 8) throw w.fault(n.line, 7);
                    char letter = n.kind() == '=' ? n.head.charAt(1) : w.letter;
                    for (int j = n.kind() == '=' ? 0 : w.j + 1; j < w.chain.size(); j++) {
                        Node block = templates[w.chain.get(j)].block(letter);
                        if (block == null) continue;
                        all(block.inner, w.at(j, letter));
                        same(from, n, w);
                        return;
                    }
                    throw w.fault(n.line, 8);
            }
        }

        void branch(Node n, Where w) {
            if (!looking) {
                all(holds(n, w) ? n.inner : n.other, w);
                return;
            }
            int from = context;
            all(n.inner, w);
            int end = context;
            context = from;
            all(n.other, w);
            same(end, n, w);
        }

        void loop(Node n, Where w) {
            Object list = workOut(n.head.substring(3), n, w);
            if (sort(list) != 4) throw w.fault(n.line, 2);
            if (ints(list).isEmpty()) all(n.other, w);
            Object[] was = env.clone();
            for (int i = 0; i < ints(list).size(); i++) {
                env[n.head.charAt(1) - 'a'] = ints(list).get(i);
                all(n.inner, w.turned(i));
                env = was.clone();
            }
        }

        Object workOut(String e, Node n, Where w) {
            Matcher m = Pattern.compile("^(" + OPERAND + ")\\|?", Pattern.DOTALL).matcher(e);
            if (!m.find()) throw new IllegalStateException(e);
            String operand = m.group(1);
            String filters = e.substring(m.end());
            Object v;
            char c = operand.charAt(0);
            if (c == '#') {
                if (w.turn == null) throw w.fault(n.line, 9);
                v = w.turn;
            } else if (c == '\'') {
                v = operand.substring(1, operand.length() - 1);
            } else if (c >= 'a') {
                v = env[c - 'a'];
            } else {
                v = Integer.parseInt(operand);
            }
            try {
                for (String f : filters.isEmpty() ? new String[0] : filters.split("\\|")) v = apply(v, f);
            } catch (Sort s) {
                throw w.fault(n.line, s.sort);
            }
            return v;
        }

        boolean holds(Node n, Where w) {
            if (n.head.startsWith("?!")) return !isTrue(workOut(n.head.substring(2), n, w));
            String[] sides = sides(n.head.substring(1));
            Object a = workOut(sides[0], n, w);
            if (sides.length == 1) return isTrue(a);
            Object b = workOut(sides[2], n, w);
            boolean less = sides[1].equals("<");
            if (sort(a) == 3 && sort(b) == 3) {
                int order = ((String) a).compareTo((String) b);
                return less ? order < 0 : order == 0;
            }
            if (sort(a) < 1 || sort(a) > 2 || sort(b) < 1 || sort(b) > 2) throw w.fault(n.line, 2);
            float f = ((Number) a).floatValue();
            float g = ((Number) b).floatValue();
            return less ? f < g : f == g;
        }

        void putEscaped(String bytes, Node n, Where w) {
            String escaped = bytes;
            if (context == 0 || context == 2) escaped = escaped.replace("&", "&a;").replace("<", "&l;");
            if (context == 2) escaped = escaped.replace("\"", "&q;");
            if (context == 1) escaped = escaped.replaceAll("[^0-9A-Za-z]", "_");
            if (context == 3) escaped = escaped.replace("\\", "\\\\").replace("`", "\\`");
            put(escaped, n, w);
        }

        void put(String bytes, Node n, Where w) {
            if (looking) return;
            out.append(bytes);
            if (out.length() > budget) throw w.fault(n.line, 5);
        }
    }

    int look(int k, int context) {
        if (no(k, 6)) return -1;
        if (no(context, 4)) return -2;
        Run run = new Run(true, context);
        try {
            run.template(k, new ArrayList<>(), 0, null);
            return run.context;
        } catch (Fault f) {
            why = f.links;
            return -20;
        }
    }

    int press(int k) {
        if (no(k, 6)) return -1;
        if (look(k, 0) < 0) return -20;
        Run run = new Run(false, 0);
        try {
            run.template(k, new ArrayList<>(), 0, null);
            page = run.out.toString();
            return page.length();
        } catch (Fault f) {
            why = f.links;
            return -20;
        } finally {
            stepsPrinted = run.steps;
        }
    }

    int page(int i) {
        return no(i, page.length()) ? -1 : page.charAt(i);
    }

    int why(int i, int what) {
        return no(i, why.size()) || no(what, 3) ? -1 : why.get(i)[what];
    }

    int budget(int n) {
        if (no(n, 401)) return -2;
        int was = budget;
        budget = n;
        return was;
    }

    private int holding() {
        int bits = 0;
        for (int k = 0; k < 6; k++) if (templates[k] != null) bits |= 1 << k;
        return bits;
    }

    int told(int what) {
        switch (what) {
            case 0: return page.length();
            case 1: return why.size();
            case 2: return budget;
            case 3: return holding();
            case 4: return tape.length();
            case 5: return stepsPrinted;
            case 6: return page.chars().sum();
            case 7: return (int) page.chars().filter(c -> c == 10).count();
            default: return -1;
        }
    }

    // ---- rows, the image

    private static int sizeOf(Object row) {
        return java.lang.reflect.Array.getLength(row);
    }

    int row(int r, int sort, int n) {
        if (no(r, 6) || no(sort, 3)) return -1;
        if (n > 60) return -2;
        if (n < 0) return -14;
        rows[r] = sort == 0 ? new byte[n] : sort == 1 ? new int[n] : (Object) new float[n];
        return 1;
    }

    private static void put(Object row, int i, long v) {
        if (row instanceof byte[]) ((byte[]) row)[i] = (byte) v;
        if (row instanceof int[]) ((int[]) row)[i] = (int) v;
        if (row instanceof float[]) ((float[]) row)[i] = v;
    }

    int set(int r, int i, long v) {
        if (no(r, 6)) return -1;
        if (rows[r] == null) return -11;
        if (no(i, sizeOf(rows[r]))) return -13;
        put(rows[r], i, v);
        return 1;
    }

    long get(int r, int i) {
        if (no(r, 6) || rows[r] == null || no(i, sizeOf(rows[r]))) return Long.MIN_VALUE;
        if (rows[r] instanceof byte[]) return ((byte[]) rows[r])[i];
        if (rows[r] instanceof int[]) return ((int[]) rows[r])[i];
        return Float.floatToIntBits(((float[]) rows[r])[i]);
    }

    int move(int r, int i, int o, int j, int n) {
        if (no(r, 6) || no(o, 6)) return -1;
        try {
            System.arraycopy(rows[r], i, rows[o], j, n);
            return n;
        } catch (NullPointerException e) {
            return -11;
        } catch (ArrayStoreException e) {
            return -12;
        } catch (IndexOutOfBoundsException e) {
            return -13;
        }
    }

    int twin(int r, int o) {
        if (no(r, 6) || no(o, 6)) return -1;
        if (rows[r] == null) return -11;
        Object from = rows[r];
        rows[o] = from instanceof byte[] ? ((byte[]) from).clone()
            : from instanceof int[] ? ((int[]) from).clone() : (Object) ((float[]) from).clone();
        return sizeOf(from);
    }

    int lay(int r, int i) {
        if (no(r, 6)) return -1;
        if (rows[r] == null) return -11;
        for (int p = 0; p < page.length(); p++) {
            if (i < 0 || (long) i + p >= sizeOf(rows[r])) return -13;
            put(rows[r], i + p, page.charAt(p));
        }
        return page.length();
    }

    int judge(int r, int i) {
        if (no(r, 6)) return -1;
        if (rows[r] == null) return -11;
        for (int p = 0; p < page.length(); p++) {
            if (i < 0 || (long) i + p >= sizeOf(rows[r])) return 100 + p;
            int has = rows[r] instanceof float[] ? (int) ((float[]) rows[r])[i + p] : (int) get(r, i + p);
            if (has != page.charAt(p)) return p;
        }
        return -5;
    }

    int image() {
        image = new Object[] {values.clone(), templates.clone(), budget, page};
        return holding();
    }

    int undo() {
        if (image == null) return -3;
        values = ((Object[]) image[0]).clone();
        templates = ((Parsed[]) image[1]).clone();
        budget = (Integer) image[2];
        page = (String) image[3];
        return holding();
    }
}
