import java.lang.management.ManagementFactory;

/**
 * All calls of a run live in one room that nothing leaves: some 600,000 objects, 7.3 million fields and
 * elements. An object takes 16 bytes at least here and an element one, so that few bytes mean few of both.
 */
final class RoomTest {
    private static final int CALLS = 512;
    private static final long DUE = 200000;

    public static void main(String[] args) {
        run("names told in loops", "{*a d}{*b d}{*c d}{@h=d|sort|rev|rev|rev|rev|rev|rev|rev|rev|rev|rev}{/}{/}{/}");
        run("filters in loops", "{*a d}{*b d}{*c d}{g|up|up|up|up|up|up|up|up|up|up|up|up|up|up|up|up|up|up|up}{/}{/}{/}");
        run("names told one behind another", names());
        run("reals in loops", "{*a d}{*b d}{*c d}{?a|third|bits<b|half|real|third}{/}{/}{/}{/}");
        run("parts in loops", "{*a d}{*b d}{>0}{/}{/}");
        run("lists of lists of loops", "{*a d|sort}{*b d|sort}{*c d|sort}{*a d|sort}{/}{/}{/}{/}");
        manyTemplates();
        manyFilters();
        rowsAndImages();
        Check.end();
    }

    private static String names() {
        StringBuilder b = new StringBuilder("{*a d}{*a d}");
        for (int i = 0; i < 20; i++) b.append("{@h=d}");
        return b.append("{/}{/}").toString();
    }

    private static long used() {
        com.sun.management.ThreadMXBean threads = (com.sun.management.ThreadMXBean) ManagementFactory.getThreadMXBean();
        return threads.getThreadAllocatedBytes(Thread.currentThread().getId());
    }

    private static void isFew(String run, long from) {
        long bytes = used() - from;
        System.out.println(run + ": " + bytes + " bytes");
        Check.due(run + " takes few bytes", bytes < DUE ? 1 : 0, 1);
    }

    private static void run(String name, String text) {
        long from = used();
        TemplatePress x = new TemplatePress();
        int calls = 0;
        x.list(3, 6);
        for (int i = 0; i < 6; i++) x.item(3, i, 7 - i);
        Check.feed(x, "0123456789abcdef");
        x.text(6);
        calls += 24 + text.length();
        Check.feed(x, text);
        if (x.template(0) < 0) throw new IllegalStateException(name);
        for (; calls < CALLS; calls++) x.press(0);
        isFew(name, from);
    }

    private static void manyTemplates() {
        long from = used();
        TemplatePress x = new TemplatePress();
        int letter = 0;
        for (int calls = 0; calls < CALLS; calls++) {
            if (letter == 3) x.template(calls % 6);
            else x.feed("{1}".charAt(letter));
            letter = (letter + 1) % 4;
        }
        isFew("many templates", from);
        from = used();
        x = new TemplatePress();
        for (int calls = 0; calls < CALLS; calls++) x.template(calls % 6);
        isFew("empty templates", from);
    }

    private static void manyFilters() {
        long from = used();
        TemplatePress x = new TemplatePress();
        for (int calls = 0; calls < CALLS; calls++) {
            if (calls % 5 == 4) x.filter(0);
            else x.feed("or:1".charAt(calls % 5));
        }
        isFew("many filters", from);
    }

    private static void rowsAndImages() {
        long from = used();
        TemplatePress x = new TemplatePress();
        for (int calls = 0; calls < CALLS; calls++) {
            switch (calls % 8) {
                case 0: x.row(0, calls % 3, 60); break;
                case 1: x.twin(0, 1); break;
                case 2: x.image(); break;
                case 3: x.undo(); break;
                case 4: x.lay(0, 0); break;
                case 5: x.shown(0, 0); break;
                case 6: x.look(calls % 6, 0); break;
                default: x.list(calls % 8, 6); break;
            }
        }
        isFew("rows and images", from);
    }
}
