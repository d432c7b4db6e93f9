/**
 * A template press: templates with values, branches, loops, blocks and parts are read from a tape,
 * looked through, and pressed into a page. ../shared/DOC.md tells what each call does; words in
 * capitals in the comments are that document's.
 */
public final class TemplatePress {
    public static final int NONE = -1, BAD = -2, STATE = -3, FULL = -4;
    public static final long NO = Long.MIN_VALUE;

    private static final int LACKING = -5, NOTHING_THERE = -11, UNLIKE_SORTS = -12, BEYOND = -13, BELOW = -14;
    private static final int FAULTED = -20, TEXT_FAULT = -100, LOOKED_AT = 100;

    private static final int VARIABLES = 8, TEMPLATES = 6, LETTERS = 4, ROWS = 6, CONTEXTS = 4;
    private static final int PLAIN = 0, TAG = 1, QUOTED = 2, CODE = 3;
    private static final int TAPE_LIMIT = 160, BUDGET_LIMIT = 400, ROW_LIMIT = 60;
    private static final int TEXT_LIMIT = 16, LIST_LIMIT = 6, INT_LIMIT = 1000000, FIGURES_LIMIT = 5;
    // the longest VALUE SHOWN is a LIST of six INTS of eight bytes, with five commas
    private static final int SHOWN_LIMIT = 53;
    private static final int CHAIN_LIMIT = 6, NESTED_LIMIT = 4, DEEP_LIMIT = 8, STEP_LIMIT = 300;
    // each of nine CHAINS gives a fault five links of SORT 11 and one more, of three numbers
    private static final int WHY_LIMIT = 9 * 6 * 3;

    private static final int SORT_NO_TEMPLATE = 1, SORT_KIND = 2, SORT_CONTEXT = 3, SORT_OVER = 4, SORT_BUDGET = 5;
    private static final int SORT_STEPS = 6, SORT_DEEP = 7, SORT_NO_BLOCK = 8, SORT_NO_LOOP = 9, SORT_PART = 10;
    private static final int SORT_BASE = 11;

    private final State state;
    private final State taken;
    private boolean isTaken;
    private final Numbers tape;
    private final Numbers reasons;
    private final Numbers figures;
    private final Value work;
    private final Walk walk;
    private int stepsPrinted;
    private final Row[] rows;

    public TemplatePress() {
        State now = new State();
        Numbers links = new Numbers(WHY_LIMIT);
        Row[] places = new Row[ROWS];
        for (int i = 0; i < ROWS; i++) places[i] = new Row();
        state = now;
        taken = new State();
        tape = new Numbers(TAPE_LIMIT);
        reasons = links;
        figures = new Numbers(SHOWN_LIMIT);
        work = new Value();
        walk = new Walk(now, links);
        rows = places;
    }

    // ---- variables

    public int none(int variable) {
        Value value = state.variable(variable);
        if (value == null) return NONE;
        int had = value.sort;
        value.becomeNothing();
        return had;
    }

    public int number(int variable, int v) {
        Value value = state.variable(variable);
        if (value == null) return NONE;
        if (!Value.isInt(v)) return BAD;
        int had = value.sort;
        value.becomeInt(v);
        return had;
    }

    public int real(int variable, int a, int b) {
        Value value = state.variable(variable);
        if (value == null) return NONE;
        if (b == 0) return BAD;
        int had = value.sort;
        value.becomeReal((float) a / (float) b);
        return had;
    }

    public int text(int variable) {
        Value value = state.variable(variable);
        if (value == null) return NONE;
        int had = value.sort;
        boolean fits = value.becomeText(tape);
        tape.empty();
        return fits ? had : BAD;
    }

    public int list(int variable, int n) {
        Value value = state.variable(variable);
        if (value == null) return NONE;
        if (n < 0 || n > LIST_LIMIT) return BAD;
        int had = value.sort;
        value.becomeList(n);
        return had;
    }

    public int item(int variable, int i, int v) {
        Value value = state.variable(variable);
        if (value == null) return NONE;
        if (value.sort != Value.LIST) return STATE;
        if (!among(i, value.size)) return NONE;
        if (!Value.isInt(v)) return BAD;
        int was = value.at(i);
        value.put(i, v);
        return was;
    }

    public int of(int variable, int what) {
        Value value = state.variable(variable);
        if (value == null) return NONE;
        switch (what) {
            case 0:
                return value.sort;
            case 1:
                return showFigures(value);
            case 2:
                return value.measure();
            case 3:
                return value.isTrue() ? 1 : 0;
            default:
                return NONE;
        }
    }

    public int shown(int variable, int i) {
        Value value = state.variable(variable);
        if (value == null) return NONE;
        showFigures(value);
        return figures.at(i);
    }

    // ---- templates

    public int feed(int letter) {
        if (letter < 1 || letter > 127) return BAD;
        return tape.add(letter) ? tape.size : FULL;
    }

    public int clear() {
        int had = tape.size;
        tape.empty();
        return had;
    }

    public int template(int k) {
        if (!among(k, TEMPLATES)) return NONE;
        Reader reader = new Reader(tape);
        Template read = reader.readTemplate();
        tape.empty();
        if (read == null) return TEXT_FAULT - reader.fault;
        state.templates[k] = read;
        return read.nodes;
    }

    public int drop(int k) {
        if (!among(k, TEMPLATES)) return NONE;
        Template held = state.held(k);
        if (held == null) return STATE;
        state.templates[k] = null;
        return held.nodes;
    }

    public int has(int k, int what) {
        if (!among(k, TEMPLATES) || !among(what, 7)) return NONE;
        Template held = state.held(k);
        if (held == null) return STATE;
        switch (what) {
            case 0:
                return held.nodes;
            case 1:
                return held.lines;
            case 2:
                return held.base < 0 ? LACKING : held.base;
            case 3:
                return held.letters();
            case 4:
                return held.parts;
            case 5:
                return held.names;
            default:
                return held.size;
        }
    }

    public int look(int k, int context) {
        if (!among(k, TEMPLATES)) return NONE;
        if (!among(context, CONTEXTS)) return BAD;
        walk.begin(context, true);
        walk.walkTemplate(k, 0);
        return walk.failed ? FAULTED : walk.context;
    }

    public int press(int k) {
        if (!among(k, TEMPLATES)) return NONE;
        walk.begin(PLAIN, true);
        walk.walkTemplate(k, 0);
        if (walk.failed) return FAULTED;
        walk.begin(PLAIN, false);
        walk.walkTemplate(k, 0);
        stepsPrinted = walk.steps;
        if (walk.failed) return FAULTED;
        state.sheet.copy(walk.out);
        return state.sheet.size;
    }

    public int filter(int variable) {
        Value value = state.variable(variable);
        if (value == null) return NONE;
        Reader reader = new Reader(tape);
        FilterUse first = reader.readWholeFilters();
        tape.empty();
        if (first == null) return TEXT_FAULT - reader.fault;
        work.copy(value);
        int sort = work.applyAll(first);
        if (sort != 0) {
            reasons.empty();
            reasons.addLink(-1, 0, sort);
            return FAULTED;
        }
        value.copy(work);
        return value.sort;
    }

    public int page(int i) {
        return state.sheet.at(i);
    }

    public int why(int i, int what) {
        if (!among(i, reasons.size / 3) || !among(what, 3)) return NONE;
        return reasons.at(i * 3 + what);
    }

    public int budget(int n) {
        if (n < 0 || n > BUDGET_LIMIT) return BAD;
        int was = state.limit;
        state.limit = n;
        return was;
    }

    public int told(int what) {
        switch (what) {
            case 0:
                return state.sheet.size;
            case 1:
                return reasons.size / 3;
            case 2:
                return state.limit;
            case 3:
                return state.holding();
            case 4:
                return tape.size;
            case 5:
                return stepsPrinted;
            case 6:
                return state.sheet.sum();
            case 7:
                return state.sheet.count('\n');
            default:
                return NONE;
        }
    }

    // ---- rows, the image

    public int row(int row, int sort, int n) {
        if (!among(row, ROWS) || !among(sort, 3)) return NONE;
        if (n > ROW_LIMIT) return BAD;
        if (n < 0) return BELOW;
        rows[row].begin(sort, n);
        return 1;
    }

    public int set(int row, int i, long v) {
        if (!among(row, ROWS)) return NONE;
        Row into = rows[row];
        if (into.isNothing()) return NOTHING_THERE;
        if (!among(i, into.size)) return BEYOND;
        into.put(i, v);
        return 1;
    }

    public long get(int row, int i) {
        if (!among(row, ROWS)) return NO;
        Row from = rows[row];
        return among(i, from.size) ? from.bits(i) : NO;
    }

    public int move(int row, int i, int other, int j, int n) {
        if (!among(row, ROWS) || !among(other, ROWS)) return NONE;
        Row from = rows[row];
        Row into = rows[other];
        if (from.isNothing() || into.isNothing()) return NOTHING_THERE;
        if (from.sort != into.sort) return UNLIKE_SORTS;
        if (!from.spans(i, n) || !into.spans(j, n)) return BEYOND;
        into.take(from, i, j, n);
        return n;
    }

    public int twin(int row, int other) {
        if (!among(row, ROWS) || !among(other, ROWS)) return NONE;
        Row from = rows[row];
        if (from.isNothing()) return NOTHING_THERE;
        // one that became its own twin would be wiped by begin()
        if (row != other) {
            rows[other].begin(from.sort, from.size);
            rows[other].take(from, 0, 0, from.size);
        }
        return from.size;
    }

    public int lay(int row, int i) {
        if (!among(row, ROWS)) return NONE;
        Row into = rows[row];
        if (into.isNothing()) return NOTHING_THERE;
        for (int p = 0; p < state.sheet.size; p++) {
            if (i < 0 || i >= into.size - p) return BEYOND;
            into.put(i + p, state.sheet.at(p));
        }
        return state.sheet.size;
    }

    public int judge(int row, int i) {
        if (!among(row, ROWS)) return NONE;
        Row by = rows[row];
        if (by.isNothing()) return NOTHING_THERE;
        for (int p = 0; p < state.sheet.size; p++) {
            if (i < 0 || i >= by.size - p) return LOOKED_AT + p;
            if (by.whole(i + p) != state.sheet.at(p)) return p;
        }
        return LACKING;
    }

    public int image() {
        taken.copy(state);
        isTaken = true;
        return state.holding();
    }

    public int undo() {
        if (!isTaken) return STATE;
        state.copy(taken);
        return state.holding();
    }

    private int showFigures(Value value) {
        figures.empty();
        value.showInto(figures);
        return figures.size;
    }

    private static boolean among(int i, int n) {
        return i >= 0 && i < n;
    }

    /** Numbers one behind another, up to a limit: THE TAPE, THE PAGE, a VALUE SHOWN, the links of WHY. */
    private static final class Numbers {
        private final int[] items;
        private int size;

        Numbers(int limit) {
            items = new int[limit > 0 ? limit : 0];
        }

        void empty() {
            size = 0;
        }

        boolean add(int item) {
            if (size < 0 || size >= items.length) return false;
            items[size] = item;
            size = size + 1;
            return true;
        }

        /** A link of WHY is three numbers. */
        void addLink(int template, int line, int sort) {
            if (size < 0 || size > items.length - 3) return;
            items[size] = template;
            items[size + 1] = line;
            items[size + 2] = sort;
            size = size + 3;
        }

        int at(int i) {
            return i >= 0 && i < size && i < items.length ? items[i] : NONE;
        }

        void copy(Numbers other) {
            int n = Math.min(other.size, items.length);
            System.arraycopy(other.items, 0, items, 0, n);
            size = n;
        }

        int sum() {
            int sum = 0;
            for (int i = 0; i < size && i < items.length; i++) sum = sum + items[i];
            return sum;
        }

        int count(int item) {
            int n = 0;
            for (int i = 0; i < size && i < items.length; i++) if (items[i] == item) n = n + 1;
            return n;
        }
    }

    private static boolean isFigure(int letter) {
        return letter >= '0' && letter <= '9';
    }

    private static boolean isSmall(int letter) {
        return letter >= 'a' && letter <= 'z';
    }

    private static boolean isGreat(int letter) {
        return letter >= 'A' && letter <= 'Z';
    }

    /** The FILTERS by their names, and whether : and a number stand behind one. */
    private enum Filter {
        UP("up", false), LOW("low", false), REV("rev", false), LEN("len", false), CUT("cut", true), PAD("pad", true),
        INC("inc", true), MUL("mul", true), HALF("half", false), THIRD("third", false), INT("int", false),
        REAL("real", false), BITS("bits", false), FIRST("first", false), LAST("last", false), SUM("sum", false),
        SORT("sort", false), OR("or", true);

        private static final Filter[] ALL = values();

        private final String word;
        private final boolean counted;

        Filter(String word, boolean counted) {
            this.word = word;
            this.counted = counted;
        }

        private boolean stands(Numbers text, int from, int n) {
            if (word.length() != n || from < 0 || from > text.items.length - n) return false;
            for (int i = 0; i < n && i < word.length(); i++) {
                if (text.items[from + i] != word.charAt(i)) return false;
            }
            return true;
        }

        /** The FILTER whose name the n bytes are, null if there is none. */
        static Filter called(Numbers text, int from, int n) {
            for (int i = 0; i < ALL.length; i++) {
                if (ALL[i].stands(text, from, n)) return ALL[i];
            }
            return null;
        }
    }

    /** A FILTER with its n, and the one behind it. */
    private static final class FilterUse {
        private final Filter filter;
        private int n;
        private FilterUse next;

        FilterUse(Filter filter) {
            this.filter = filter;
        }
    }

    /**
     * A VALUE. It is changed in place, so that pressing makes no objects: filters work on copies in
     * registers, and what a name held is kept aside in values made once.
     */
    private static final class Value {
        private static final int NOTHING = 0, INT = 1, REAL = 2, TEXT = 3, LIST = 4;
        private static final int UNLIKE = 2;

        private int sort;
        private int number;
        private float real;
        private int size;
        private final int[] items = new int[TEXT_LIMIT];

        static boolean isInt(long n) {
            return n >= -INT_LIMIT && n <= INT_LIMIT;
        }

        int at(int i) {
            return i >= 0 && i < size && i < items.length ? items[i] : 0;
        }

        void put(int i, int item) {
            if (i >= 0 && i < size && i < items.length) items[i] = item;
        }

        void copy(Value other) {
            sort = other.sort;
            number = other.number;
            real = other.real;
            size = other.size;
            System.arraycopy(other.items, 0, items, 0, items.length);
        }

        void becomeNothing() {
            sort = NOTHING;
            size = 0;
        }

        void becomeInt(int n) {
            sort = INT;
            number = n;
            size = 0;
        }

        /** LIMITED. */
        void becomeReal(float f) {
            sort = REAL;
            // -0 equals 0, and becomes it
            real = f > 1000000f ? 1000000f : f < -1000000f ? -1000000f : f == 0f ? 0f : f;
            size = 0;
        }

        void becomeList(int n) {
            sort = LIST;
            resize(n);
            for (int i = 0; i < size; i++) put(i, 0);
        }

        /** Whether the bytes fit; nothing changes if they don't. */
        boolean becomeText(Numbers bytes) {
            if (bytes.size > TEXT_LIMIT) return false;
            sort = TEXT;
            resize(bytes.size);
            for (int i = 0; i < size; i++) put(i, bytes.at(i));
            return true;
        }

        private void resize(int n) {
            size = n < 0 ? 0 : Math.min(n, items.length);
        }

        /** Like becomeInt, but for numbers that may be beyond: SORT_OVER then. */
        private int becomeCounted(long n) {
            if (!isInt(n)) return SORT_OVER;
            sort = INT;
            number = (int) n;
            size = 0;
            return 0;
        }

        boolean isTrue() {
            switch (sort) {
                case INT:
                    return number != 0;
                case REAL:
                    return real != 0f;
                case TEXT:
                case LIST:
                    return size > 0;
                default:
                    return false;
            }
        }

        int measure() {
            switch (sort) {
                case INT:
                    return number;
                case REAL:
                    return bitsOf(real);
                case TEXT:
                case LIST:
                    return size;
                default:
                    return 0;
            }
        }

        /** The bits of a float, worked out: the rules of LANGUAGE.md leave no library call for them. */
        static int bitsOf(float f) {
            if (f == 0f) return 0;
            double amount = f < 0f ? -(double) f : (double) f;
            int exponent = 0;
            for (int i = 0; i < 128 && amount >= 2.0; i++) {
                amount = amount * 0.5;
                exponent = exponent + 1;
            }
            for (int i = 0; i < 126 && amount < 1.0; i++) {
                amount = amount * 2.0;
                exponent = exponent - 1;
            }
            int bits = (int) (amount * 8388608.0);
            // below 1 at the least exponent there is no hidden bit, and the exponent's bits are 0
            if (bits >= 8388608) bits = bits - 8388608 + ((exponent + 127) << 23);
            return f < 0f ? bits | (1 << 31) : bits;
        }

        /** The higher 32 bits of those of an INT as a double; its amount is below 2 to the 20th. */
        static int highBitsOf(int n) {
            int amount = Math.min(Math.abs(n), INT_LIMIT);
            if (amount <= 0) return 0;
            int exponent = 0;
            for (int i = 0; i < 20 && (amount >> (exponent + 1)) > 0; i++) exponent = exponent + 1;
            int bits = (amount << (20 - exponent)) - (1 << 20) + ((exponent + 1023) << 20);
            return n < 0 ? bits | (1 << 31) : bits;
        }

        /** -1, 0 or 1 as this one is before, like or behind the other; UNLIKE where that is a KIND fault. */
        int compareWith(Value other) {
            if (sort == TEXT && other.sort == TEXT) return compareItems(other);
            if (!isNumeric() || !other.isNumeric()) return UNLIKE;
            if (sort == INT && other.sort == INT) return Integer.compare(number, other.number);
            float mine = sort == INT ? (float) number : real;
            float others = other.sort == INT ? (float) other.number : other.real;
            return mine < others ? -1 : mine > others ? 1 : 0;
        }

        private boolean isNumeric() {
            return sort == INT || sort == REAL;
        }

        private int compareItems(Value other) {
            int shorter = Math.min(size, other.size);
            for (int i = 0; i < shorter; i++) {
                if (at(i) != other.at(i)) return at(i) < other.at(i) ? -1 : 1;
            }
            return Integer.compare(size, other.size);
        }

        void showInto(Numbers bytes) {
            switch (sort) {
                case INT:
                    showInt(number, bytes);
                    return;
                case REAL:
                    showReal(bytes);
                    return;
                case TEXT:
                    for (int i = 0; i < size; i++) bytes.add(at(i));
                    return;
                case LIST:
                    for (int i = 0; i < size; i++) {
                        if (i > 0) bytes.add(',');
                        showInt(at(i), bytes);
                    }
                    return;
                default:
                    return;
            }
        }

        private static void showInt(int n, Numbers bytes) {
            if (n < 0) bytes.add('-');
            int amount = Math.abs(n);
            int unit = 1;
            for (int i = 0; i < 6 && amount / unit >= 10; i++) unit = unit * 10;
            for (; unit > 0; unit = unit / 10) bytes.add('0' + amount / unit % 10);
        }

        private void showReal(Numbers bytes) {
            if (real < 0f) bytes.add('-');
            float amount = real < 0f ? -real : real;
            int whole = (int) amount;
            int rest = (int) ((amount - (float) whole) * 1000f);
            showInt(whole, bytes);
            bytes.add('.');
            bytes.add('0' + rest / 100 % 10);
            bytes.add('0' + rest / 10 % 10);
            bytes.add('0' + rest % 10);
        }

        /** 0, or the SORT of the fault at which the FILTERS end. */
        int applyAll(FilterUse first) {
            int fault = 0;
            for (FilterUse use = first; use != null && fault == 0; use = use.next) {
                if (use.filter == Filter.OR) {
                    if (sort == NOTHING) becomeInt(use.n);
                    continue;
                }
                switch (sort) {
                    case INT:
                        fault = filterInt(use.filter, use.n);
                        break;
                    case REAL:
                        fault = filterReal(use.filter, use.n);
                        break;
                    case TEXT:
                        fault = filterText(use.filter, use.n);
                        break;
                    case LIST:
                        fault = filterList(use.filter, use.n);
                        break;
                    default:
                        fault = SORT_KIND;
                        break;
                }
            }
            return fault;
        }

        private int filterInt(Filter filter, int n) {
            switch (filter) {
                case INC:
                    return becomeCounted((long) number + (long) n);
                case MUL:
                    return becomeCounted((long) number * (long) n);
                case HALF:
                    return becomeCounted(number / 2);
                case THIRD:
                    becomeReal((float) number / 3.0f);
                    return 0;
                case INT:
                    return 0;
                case REAL:
                    becomeReal((float) number);
                    return 0;
                case BITS:
                    return becomeCounted(highBitsOf(number) / 4096);
                default:
                    return SORT_KIND;
            }
        }

        private int filterReal(Filter filter, int n) {
            switch (filter) {
                case INC:
                    becomeReal(real + (float) n);
                    return 0;
                case MUL:
                    becomeReal(real * (float) n);
                    return 0;
                case HALF:
                    becomeReal(real * 0.5f);
                    return 0;
                case THIRD:
                    becomeReal(real / 3.0f);
                    return 0;
                case INT:
                    return becomeCounted((int) real);
                case REAL:
                    return 0;
                case BITS:
                    return becomeCounted(bitsOf(real) / 4096);
                default:
                    return SORT_KIND;
            }
        }

        private int filterText(Filter filter, int n) {
            switch (filter) {
                case UP:
                    for (int i = 0; i < size; i++) if (isSmall(at(i))) put(i, at(i) - 'a' + 'A');
                    return 0;
                case LOW:
                    for (int i = 0; i < size; i++) if (isGreat(at(i))) put(i, at(i) - 'A' + 'a');
                    return 0;
                case PAD:
                    padTo(n);
                    return 0;
                case INT:
                    return becomeCounted(countFigures());
                case FIRST:
                    resize(Math.min(size, 1));
                    return 0;
                case LAST:
                    if (size > 0) put(0, at(size - 1));
                    resize(Math.min(size, 1));
                    return 0;
                default:
                    return filterItems(filter, n);
            }
        }

        private int filterList(Filter filter, int n) {
            switch (filter) {
                case FIRST:
                    return becomeItem(0);
                case LAST:
                    return becomeItem(size - 1);
                case SUM:
                    return becomeCounted(sumOfItems());
                case SORT:
                    sortItems();
                    return 0;
                default:
                    return filterItems(filter, n);
            }
        }

        /** The FILTERS that treat bytes of a TEXT and INTS of a LIST alike. */
        private int filterItems(Filter filter, int n) {
            switch (filter) {
                case REV:
                    for (int i = 0; i < size / 2; i++) exchange(i, size - 1 - i);
                    return 0;
                case LEN:
                    becomeInt(size);
                    return 0;
                case CUT:
                    resize(Math.min(size, n));
                    return 0;
                default:
                    return SORT_KIND;
            }
        }

        private int becomeItem(int i) {
            int item = at(i);
            if (among(i, size)) becomeInt(item);
            else becomeNothing();
            return 0;
        }

        private int countFigures() {
            int n = 0;
            for (int i = 0; i < size; i++) if (isFigure(at(i))) n = n + 1;
            return n;
        }

        private void padTo(int n) {
            int had = size;
            resize(Math.max(had, n));
            for (int i = had; i < size; i++) put(i, ' ');
        }

        private long sumOfItems() {
            long sum = 0;
            for (int i = 0; i < size; i++) sum = sum + at(i);
            return sum;
        }

        private void exchange(int i, int j) {
            if (i < 0 || i >= items.length || j < 0 || j >= items.length) return;
            int item = items[i];
            items[i] = items[j];
            items[j] = item;
        }

        private void sortItems() {
            for (int i = 1; i < size; i++) {
                for (int j = i; j > 0 && at(j) < at(j - 1); j--) exchange(j, j - 1);
            }
        }
    }

    /** An E: what it begins with, and the FILTERS behind. */
    private static final class Expression {
        private static final int FIXED = 0, VARIABLE = 1, TURNS = 2;

        private int kind;
        private int variable;
        private Value fixed;
        private FilterUse first;
    }

    /** A PIECE, and the one behind it in its T. */
    private static final class Piece {
        private static final int BYTE = 0, SHOW = 1, BRANCH = 2, LOOP = 3, BLOCK = 4, ABOVE = 5, PART = 6, NAME = 7;
        private static final int ALONE = 0, NOT = 1, LESS = 2, EQUAL = 3;

        private final int kind;
        private final int line;
        // the byte, the VARIABLE, the letter of the block or the TEMPLATE that it names
        private int sign;
        private int test;
        private Expression left;
        private Expression right;
        private Piece inner;
        private Piece other;
        private Piece next;

        Piece(int kind, int line) {
            this.kind = kind;
            this.line = line;
        }
    }

    /** What was read from THE TAPE. It is never changed behind that, so THE IMAGE holds the same one. */
    private static final class Template {
        private final int size;
        private final Piece[] blocks = new Piece[LETTERS];
        private Piece first;
        private int base = NONE;
        private int nodes;
        private int lines;
        private int parts;
        private int names;

        Template(int size) {
            this.size = size;
        }

        Piece block(int letter) {
            return among(letter, LETTERS) ? blocks[letter] : null;
        }

        void addBlock(int letter, Piece piece) {
            if (among(letter, LETTERS) && blocks[letter] == null) blocks[letter] = piece;
        }

        int letters() {
            int bits = 0;
            for (int i = 0; i < LETTERS; i++) if (blocks[i] != null) bits = bits | (1 << i);
            return bits;
        }
    }

    /** Reads THE TAPE from left to right; the first byte that doesn't fit is the fault, and all reading ends. */
    private static final class Reader {
        private final Numbers text;
        private final Template into;
        private int at;
        private int line = 1;
        private int fault = NONE;
        private boolean turned;

        Reader(Numbers text) {
            this.text = text;
            into = new Template(text.size);
        }

        /** The TEMPLATE, null if there is a fault. */
        Template readTemplate() {
            if (text.at(0) == '{' && text.at(1) == '<') {
                at = 2;
                into.nodes = 1;
                into.base = readOneOf('0', TEMPLATES);
                expect('}');
            }
            into.first = readAll(0, false, false);
            into.lines = line;
            return fault < 0 ? into : null;
        }

        /** FILTERS alone, null if there is a fault. */
        FilterUse readWholeFilters() {
            FilterUse first = readFilters();
            if (at < text.size) refuse();
            return fault < 0 ? first : null;
        }

        private int peek() {
            return at >= 0 && at < text.size && at < text.items.length ? text.items[at] : NONE;
        }

        private void refuse() {
            if (fault < 0) fault = at;
        }

        private void expect(int letter) {
            if (peek() == letter) at = at + 1;
            else refuse();
        }

        private int readOneOf(int first, int n) {
            int i = peek() - first;
            if (!among(i, n)) {
                refuse();
                return 0;
            }
            at = at + 1;
            return i;
        }

        private int readVariable() {
            int variable = readOneOf('a', VARIABLES);
            into.names = into.names | (1 << variable);
            return variable;
        }

        private int readFigures() {
            int n = 0;
            int from = at;
            for (int i = 0; i < FIGURES_LIMIT && isFigure(peek()); i++) {
                n = n * 10 + peek() - '0';
                at = at + 1;
            }
            if (at == from) refuse();
            return n;
        }

        /** PIECES up to the {/} or {:} that ends them, which is read too; depth 0 ends with the text. */
        private Piece readAll(int depth, boolean inBlock, boolean mayTurn) {
            Piece first = null;
            Piece last = null;
            turned = false;
            for (int i = 0; i <= TAPE_LIMIT && fault < 0; i++) {
                if (at >= text.size) {
                    if (depth > 0) refuse();
                    return first;
                }
                if (peek() == '{' && endsHere(text.at(at + 1), depth, mayTurn)) return first;
                Piece piece = readPiece(depth, inBlock);
                if (last == null) first = piece;
                else last.next = piece;
                last = piece;
            }
            return first;
        }

        private boolean endsHere(int letter, int depth, boolean mayTurn) {
            boolean closes = letter == '/' && depth > 0;
            boolean turns = letter == ':' && mayTurn;
            if (!closes && !turns) return false;
            at = at + 2;
            expect('}');
            turned = turns;
            return true;
        }

        private Piece readPiece(int depth, boolean inBlock) {
            if (peek() != '{') return readByte();
            at = at + 1;
            into.nodes = into.nodes + 1;
            switch (peek()) {
                case '?':
                    return readBranch(depth, inBlock);
                case '*':
                    return readLoop(depth, inBlock);
                case '=':
                    return readBlock(depth);
                case '^':
                    return readAbove(inBlock);
                case '>':
                    return readPart();
                case '@':
                    return readName();
                default:
                    return readShow();
            }
        }

        private Piece readShow() {
            Piece piece = new Piece(Piece.SHOW, line);
            piece.left = readExpression();
            expect('}');
            return piece;
        }

        private Piece readByte() {
            Piece piece = new Piece(Piece.BYTE, line);
            piece.sign = peek();
            if (peek() == '}') refuse();
            if (peek() == '\n') line = line + 1;
            at = at + 1;
            return piece;
        }

        private void readNested(int depth) {
            if (depth >= NESTED_LIMIT) refuse();
            at = at + 1;
        }

        private Piece readBranch(int depth, boolean inBlock) {
            Piece piece = new Piece(Piece.BRANCH, line);
            readNested(depth);
            if (peek() == '!') {
                piece.test = Piece.NOT;
                at = at + 1;
            }
            piece.left = readExpression();
            if (piece.test == Piece.ALONE && (peek() == '<' || peek() == '=')) {
                piece.test = peek() == '<' ? Piece.LESS : Piece.EQUAL;
                at = at + 1;
                piece.right = readExpression();
            }
            expect('}');
            readBoth(piece, depth, inBlock);
            return piece;
        }

        private Piece readLoop(int depth, boolean inBlock) {
            Piece piece = new Piece(Piece.LOOP, line);
            readNested(depth);
            piece.sign = readVariable();
            expect(' ');
            piece.left = readExpression();
            expect('}');
            readBoth(piece, depth, inBlock);
            return piece;
        }

        private void readBoth(Piece piece, int depth, boolean inBlock) {
            if (fault >= 0) return;
            piece.inner = readAll(depth + 1, inBlock, true);
            if (fault < 0 && turned) piece.other = readAll(depth + 1, inBlock, false);
        }

        private Piece readBlock(int depth) {
            Piece piece = new Piece(Piece.BLOCK, line);
            readNested(depth);
            piece.sign = readOneOf('A', LETTERS);
            expect('}');
            if (fault >= 0) return piece;
            into.addBlock(piece.sign, piece);
            piece.inner = readAll(depth + 1, true, false);
            return piece;
        }

        private Piece readAbove(boolean inBlock) {
            Piece piece = new Piece(Piece.ABOVE, line);
            if (!inBlock) refuse();
            at = at + 1;
            expect('}');
            return piece;
        }

        private Piece readPart() {
            Piece piece = new Piece(Piece.PART, line);
            at = at + 1;
            piece.sign = readOneOf('0', TEMPLATES);
            into.parts = into.parts | (1 << piece.sign);
            expect('}');
            return piece;
        }

        private Piece readName() {
            Piece piece = new Piece(Piece.NAME, line);
            at = at + 1;
            piece.sign = readVariable();
            expect('=');
            piece.left = readExpression();
            expect('}');
            return piece;
        }

        private Expression readExpression() {
            Expression read = new Expression();
            if (among(peek() - 'a', VARIABLES)) {
                read.kind = Expression.VARIABLE;
                read.variable = readVariable();
            } else if (peek() == '#') {
                read.kind = Expression.TURNS;
                at = at + 1;
            } else if (peek() == '\'') {
                read.fixed = readText();
            } else {
                read.fixed = readNumber();
            }
            if (fault < 0 && peek() == '|') {
                at = at + 1;
                read.first = readFilters();
            }
            return read;
        }

        private Value readNumber() {
            Value read = new Value();
            boolean isBelow = peek() == '-';
            if (isBelow) at = at + 1;
            int amount = readFigures();
            read.becomeInt(isBelow ? -amount : amount);
            return read;
        }

        private Value readText() {
            Value read = new Value();
            Numbers bytes = new Numbers(TEXT_LIMIT);
            at = at + 1;
            for (int i = 0; i < TEXT_LIMIT && isTextByte(peek()); i++) {
                if (peek() == '\n') line = line + 1;
                bytes.add(peek());
                at = at + 1;
            }
            expect('\'');
            read.becomeText(bytes);
            return read;
        }

        private static boolean isTextByte(int letter) {
            return letter > 0 && letter != '\'' && letter != '{' && letter != '}';
        }

        /** FILTERS with | between. */
        private FilterUse readFilters() {
            FilterUse first = null;
            FilterUse last = null;
            for (int i = 0; i <= TAPE_LIMIT && fault < 0; i++) {
                int n = countSmall();
                Filter filter = Filter.called(text, at, n);
                if (filter == null) {
                    refuse();
                    return first;
                }
                at = at + n;
                FilterUse use = new FilterUse(filter);
                if (last == null) first = use;
                else last.next = use;
                last = use;
                if (filter.counted) {
                    expect(':');
                    use.n = readFigures();
                }
                if (peek() != '|') return first;
                at = at + 1;
            }
            return first;
        }

        private int countSmall() {
            int n = 0;
            for (int i = 0; i < TAPE_LIMIT && isSmall(text.at(at + n)); i++) n = n + 1;
            return n;
        }
    }

    /** What THE IMAGE is of. */
    private static final class State {
        private final Value[] values = new Value[VARIABLES];
        private final Template[] templates = new Template[TEMPLATES];
        private final Numbers sheet = new Numbers(BUDGET_LIMIT);
        private int limit = 200;

        State() {
            for (int i = 0; i < VARIABLES; i++) values[i] = new Value();
        }

        Value variable(int v) {
            return among(v, VARIABLES) ? values[v] : null;
        }

        Template held(int k) {
            return among(k, TEMPLATES) ? templates[k] : null;
        }

        int holding() {
            int bits = 0;
            for (int k = 0; k < TEMPLATES; k++) if (templates[k] != null) bits = bits | (1 << k);
            return bits;
        }

        void copy(State other) {
            for (int i = 0; i < VARIABLES; i++) values[i].copy(other.values[i]);
            for (int k = 0; k < TEMPLATES; k++) templates[k] = other.templates[k];
            sheet.copy(other.sheet);
            limit = other.limit;
        }
    }

    /** The CHAIN of a TEMPLATE that is being walked, and where in it the walk is. */
    private static final class Chain {
        private final int[] templates = new int[CHAIN_LIMIT];
        private int size;
        // the one of the CHAIN in whose text the walk is
        private int place;
        // of the block in which the walk is
        private int letter;
        // of the {>k} through which the walk went on to the next CHAIN
        private int partLine;

        void begin() {
            size = 0;
            place = 0;
            letter = NONE;
        }

        void add(int k) {
            if (!among(size, CHAIN_LIMIT)) return;
            templates[size] = k;
            place = size;
            size = size + 1;
        }

        int at(int j) {
            return j >= 0 && j < templates.length ? templates[j] : NONE;
        }

        /** The links of SORT 11 for where the walk is, and one of a SORT behind them. */
        void tell(Numbers links, int line, int sort) {
            for (int j = 0; j < place; j++) links.addLink(at(j), 1, SORT_BASE);
            links.addLink(at(place), line, sort);
        }
    }

    /**
     * Walks a TEMPLATE: LOOKED THROUGH (all branches and loops once, nothing worked out) or PRINTED.
     * What a walk needs is made once, or where a depth is first come to, and used again.
     */
    private static final class Walk {
        // nine TEMPLATES within one another, of five T's within one another each, are 45
        private static final int LEVELS = 48;
        // 300 names told, and one for each loop that is open
        private static final int KEPT_LIMIT = STEP_LIMIT + LEVELS;

        private final State state;
        private final Numbers links;
        private final Chain[] chains = new Chain[DEEP_LIMIT + 1];
        private final Value[] lists = new Value[LEVELS];
        private final Value left = new Value();
        private final Value right = new Value();
        private final Numbers shown = new Numbers(SHOWN_LIMIT);
        private final Numbers out = new Numbers(BUDGET_LIMIT);
        private final Value[] kept = new Value[KEPT_LIMIT];
        private final int[] keptNames = new int[KEPT_LIMIT];
        private int keptSize;
        private int open;
        private int deep;
        private int context;
        private int steps;
        private int turn;
        private boolean looking;
        private boolean failed;

        Walk(State state, Numbers links) {
            this.state = state;
            this.links = links;
            for (int i = 0; i < chains.length; i++) chains[i] = new Chain();
        }

        /** Ahead of each walkTemplate() from outside. */
        void begin(int from, boolean onlyLooking) {
            out.empty();
            open = 0;
            deep = 0;
            context = from;
            steps = 0;
            turn = NONE;
            looking = onlyLooking;
            failed = false;
        }

        /** Only the first fault of a walk counts; WHY is told from all the CHAINS that are open. */
        private void fail(int line, int sort) {
            if (failed) return;
            failed = true;
            links.empty();
            for (int i = 0; i < open && i < chains.length; i++) {
                if (i < open - 1) chains[i].tell(links, chains[i].partLine, SORT_PART);
                else chains[i].tell(links, line, sort);
            }
        }

        private void walkTemplate(int k, int level) {
            if (!among(open, chains.length)) {
                fail(0, SORT_DEEP);
                return;
            }
            Chain chain = chains[open];
            open = open + 1;
            Template last = lastOf(chain, k);
            if (last != null) {
                int ahead = context;
                walkAll(last.first, level);
                chain.place = 0;
                if (context != ahead) fail(0, SORT_CONTEXT);
            }
            open = open - 1;
        }

        /** The TEMPLATE that ends the CHAIN, null if it has a fault. */
        private Template lastOf(Chain chain, int k) {
            int next = k;
            chain.begin();
            for (int j = 0; j < CHAIN_LIMIT; j++) {
                chain.add(next);
                Template template = state.held(next);
                if (template == null) {
                    fail(0, SORT_NO_TEMPLATE);
                    return null;
                }
                if (template.base < 0) return template;
                next = template.base;
            }
            fail(1, SORT_DEEP);
            return null;
        }

        /** A T, behind which names have what they had ahead of it. */
        private void walkAll(Piece first, int level) {
            if (level >= LEVELS) {
                fail(0, SORT_DEEP);
                return;
            }
            int mark = keptSize;
            for (Piece piece = first; piece != null && !failed; piece = piece.next) walkOne(piece, level);
            giveBack(mark);
        }

        private void walkOne(Piece piece, int level) {
            if (piece.kind == Piece.BYTE) {
                putByte(piece.sign, piece.line);
                context = behind(context, piece.sign);
                return;
            }
            if (steps >= STEP_LIMIT) {
                fail(piece.line, SORT_STEPS);
                return;
            }
            steps = steps + 1;
            switch (piece.kind) {
                case Piece.SHOW:
                    if (!looking) putValue(piece);
                    return;
                case Piece.NAME:
                    if (!looking) tellName(piece);
                    return;
                case Piece.BRANCH:
                    if (looking) lookIntoBranch(piece, level);
                    else walkBranch(piece, level);
                    return;
                case Piece.LOOP:
                    if (looking) lookIntoLoop(piece, level);
                    else walkLoop(piece, level);
                    return;
                default:
                    walkElsewhere(piece, level);
                    return;
            }
        }

        private void lookIntoBranch(Piece piece, int level) {
            int ahead = context;
            walkAll(piece.inner, level + 1);
            int end = context;
            context = ahead;
            walkAll(piece.other, level + 1);
            if (context != end) fail(piece.line, SORT_CONTEXT);
        }

        private void lookIntoLoop(Piece piece, int level) {
            int ahead = context;
            walkAll(piece.inner, level + 1);
            if (context != ahead) fail(piece.line, SORT_CONTEXT);
            walkAll(piece.other, level + 1);
            if (context != ahead) fail(piece.line, SORT_CONTEXT);
        }

        private void walkBranch(Piece piece, int level) {
            boolean holds = holds(piece);
            if (!failed) walkAll(holds ? piece.inner : piece.other, level + 1);
        }

        private void walkLoop(Piece piece, int level) {
            Value list = listAt(level);
            if (list == null) {
                fail(piece.line, SORT_DEEP);
                return;
            }
            workOut(piece.left, list, piece.line);
            if (failed) return;
            if (list.sort != Value.LIST) {
                fail(piece.line, SORT_KIND);
                return;
            }
            if (list.size == 0) walkAll(piece.other, level + 1);
            int around = turn;
            for (int i = 0; i < list.size && !failed; i++) {
                int mark = keptSize;
                left.becomeInt(list.at(i));
                giveName(piece.sign, left);
                turn = i;
                walkAll(piece.inner, level + 1);
                giveBack(mark);
            }
            turn = around;
        }

        /** A list for the loop at a level; loops within it are at others, so that it keeps its INTS. */
        private Value listAt(int level) {
            if (!among(level, LEVELS)) return null;
            if (lists[level] == null) lists[level] = new Value();
            return lists[level];
        }

        /** {>k}, {=B} and {^}: what is walked stands elsewhere. */
        private void walkElsewhere(Piece piece, int level) {
            if (deep >= DEEP_LIMIT || !among(open - 1, chains.length)) {
                fail(piece.line, SORT_DEEP);
                return;
            }
            Chain chain = chains[open - 1];
            deep = deep + 1;
            if (piece.kind == Piece.PART) {
                chain.partLine = piece.line;
                walkTemplate(piece.sign, level + 1);
            } else if (piece.kind == Piece.BLOCK) {
                walkBlock(chain, piece, 0, level);
            } else {
                walkBlock(chain, piece, chain.place + 1, level);
            }
            deep = deep - 1;
        }

        /** T of the first block of the letter in the CHAIN from a place on. */
        private void walkBlock(Chain chain, Piece piece, int from, int level) {
            int place = chain.place;
            int letter = chain.letter;
            int ahead = context;
            int sought = piece.kind == Piece.BLOCK ? piece.sign : letter;
            Piece found = null;
            for (int j = from; j < chain.size && found == null; j++) {
                Template template = state.held(chain.at(j));
                found = template == null ? null : template.block(sought);
                if (found != null) chain.place = j;
            }
            if (found == null) {
                fail(piece.line, SORT_NO_BLOCK);
                return;
            }
            chain.letter = sought;
            walkAll(found.inner, level + 1);
            chain.place = place;
            chain.letter = letter;
            if (context != ahead) fail(piece.line, SORT_CONTEXT);
        }

        private void tellName(Piece piece) {
            workOut(piece.left, left, piece.line);
            if (!failed) giveName(piece.sign, left);
        }

        /** A name has a value till giveBack() of a mark from ahead of this. */
        private void giveName(int name, Value value) {
            Value named = state.variable(name);
            if (named == null || !among(keptSize, KEPT_LIMIT)) return;
            if (kept[keptSize] == null) kept[keptSize] = new Value();
            kept[keptSize].copy(named);
            keptNames[keptSize] = name;
            keptSize = keptSize + 1;
            named.copy(value);
        }

        private void giveBack(int mark) {
            for (int i = keptSize - 1; i >= mark && among(i, KEPT_LIMIT); i--) {
                Value named = state.variable(keptNames[i]);
                if (named != null && kept[i] != null) named.copy(kept[i]);
            }
            keptSize = mark;
        }

        private void workOut(Expression expression, Value into, int line) {
            if (expression == null) return;
            if (expression.kind == Expression.TURNS && turn < 0) {
                fail(line, SORT_NO_LOOP);
                return;
            }
            Value from = expression.kind == Expression.VARIABLE ? state.variable(expression.variable) : expression.fixed;
            if (expression.kind == Expression.TURNS) into.becomeInt(turn);
            else if (from != null) into.copy(from);
            int sort = into.applyAll(expression.first);
            if (sort != 0) fail(line, sort);
        }

        private boolean holds(Piece piece) {
            workOut(piece.left, left, piece.line);
            if (piece.test == Piece.ALONE) return left.isTrue();
            if (piece.test == Piece.NOT) return !left.isTrue();
            if (!failed) workOut(piece.right, right, piece.line);
            if (failed) return false;
            int order = left.compareWith(right);
            if (order == Value.UNLIKE) fail(piece.line, SORT_KIND);
            return piece.test == Piece.LESS ? order < 0 : order == 0;
        }

        private void putValue(Piece piece) {
            workOut(piece.left, left, piece.line);
            shown.empty();
            left.showInto(shown);
            for (int i = 0; i < shown.size && !failed; i++) putEscaped(shown.at(i), piece.line);
        }

        private void putEscaped(int letter, int line) {
            int word = wordFor(context, letter);
            if (word != 0) {
                putByte('&', line);
                putByte(word, line);
                putByte(';', line);
                return;
            }
            if (context == CODE && (letter == '`' || letter == '\\')) putByte('\\', line);
            putByte(context == TAG && !isPlainInTag(letter) ? '_' : letter, line);
        }

        private void putByte(int letter, int line) {
            if (looking || failed) return;
            if (out.size >= state.limit) fail(line, SORT_BUDGET);
            else out.add(letter);
        }

        /** The CONTEXT behind a byte. */
        private static int behind(int context, int letter) {
            switch (context) {
                case PLAIN:
                    return letter == '<' ? TAG : letter == '`' ? CODE : PLAIN;
                case TAG:
                    return letter == '>' ? PLAIN : letter == '"' ? QUOTED : TAG;
                case QUOTED:
                    return letter == '"' ? TAG : QUOTED;
                default:
                    return letter == '`' ? PLAIN : CODE;
            }
        }

        /** The letter between & and ; that a byte becomes, 0 if it becomes none of these. */
        private static int wordFor(int context, int letter) {
            if (context != PLAIN && context != QUOTED) return 0;
            if (letter == '<') return 'l';
            if (letter == '&') return 'a';
            return letter == '"' && context == QUOTED ? 'q' : 0;
        }

        private static boolean isPlainInTag(int letter) {
            return isFigure(letter) || isSmall(letter) || isGreat(letter);
        }
    }

    /** A ROW of bytes, ints or floats, made once for the longest. */
    private static final class Row {
        private static final int BYTES = 0, FLOATS = 2;

        private int sort = NONE;
        private int size;
        private final int[] wholes = new int[ROW_LIMIT];
        private final float[] floats = new float[ROW_LIMIT];

        void begin(int newSort, int n) {
            sort = newSort;
            size = Math.max(0, Math.min(n, ROW_LIMIT));
            for (int i = 0; i < ROW_LIMIT; i++) {
                wholes[i] = 0;
                floats[i] = 0f;
            }
        }

        boolean isNothing() {
            return sort < 0;
        }

        boolean spans(int i, int n) {
            return n >= 0 && i >= 0 && n <= size && i <= size - n;
        }

        void put(int i, long v) {
            if (!among(i, size)) return;
            if (sort == FLOATS) floats[i] = (float) v;
            else wholes[i] = sort == BYTES ? (byte) v : (int) v;
        }

        long bits(int i) {
            if (!among(i, size)) return NO;
            return sort == FLOATS ? Value.bitsOf(floats[i]) : wholes[i];
        }

        int whole(int i) {
            if (!among(i, size)) return 0;
            return sort == FLOATS ? (int) floats[i] : wholes[i];
        }

        /** n places of a row of this sort; the library copies as if all were read ahead of the first written. */
        void take(Row from, int i, int j, int n) {
            if (!from.spans(i, n) || !spans(j, n)) return;
            System.arraycopy(from.wholes, i, wholes, j, n);
            System.arraycopy(from.floats, i, floats, j, n);
        }
    }
}
