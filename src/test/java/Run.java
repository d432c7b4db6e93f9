import java.io.IOException;
import java.lang.reflect.InvocationTargetException;
import java.lang.reflect.Method;
import java.lang.reflect.Modifier;
import java.nio.charset.StandardCharsets;
import java.nio.file.Files;
import java.nio.file.Paths;
import java.util.ArrayList;
import java.util.Arrays;
import java.util.Comparator;
import java.util.HashMap;
import java.util.List;
import java.util.Map;

/**
 * A run of calls on a new object, each told as a text like "number(0, 5)". Behind a refused call all that later
 * calls show is compared with what they show on another object, on which the same calls were made without it.
 */
final class Run {
    /** What a call that is answered -20 may change. */
    static final String[] REASONS = {"why(", "told(1)", "told(5)"};

    private static final int CALLS = 512;
    private static final Map<String, Method> FACE = face();
    private static final Map<String, Call> KNOWN = new HashMap<>();
    private static final String DOCUMENT = document();
    private static final List<Call> QUESTIONS = questions();
    private static final List<Call> OF_A_PAGE = ofAPage();

    private static String test = "";
    private static String sentence = "";
    private static int sentences = 0;

    private final List<Call> calls = new ArrayList<>();
    private final TemplatePress x = new TemplatePress();

    Run(String... first) {
        for (String call : first) make(call);
    }

    // ---- the tests and their sentences

    /** Runs each static void method without parameters; each is the test of a sentence. */
    static void all(Class<?> tests) {
        Method[] methods = tests.getDeclaredMethods();
        Arrays.sort(methods, Comparator.comparing(Method::getName));
        for (Method m : methods) {
            if (m.getReturnType() != void.class || m.getParameterCount() != 0 || !Modifier.isStatic(m.getModifiers())) continue;
            test = m.getName();
            int before = sentences;
            m.setAccessible(true);
            try {
                m.invoke(null);
            } catch (ReflectiveOperationException e) {
                throw new IllegalStateException(test, e);
            }
            Check.due(test + " says which sentence it holds", sentences - before, 1);
        }
        System.out.println(sentences + " sentences");
        Check.end();
    }

    /** The sentence of the document that the test holds: it must stand there. */
    static void holds(String words) {
        sentence = words;
        sentences++;
        Check.due("the document says: " + words, DOCUMENT.contains(words) ? 1 : 0, 1);
    }

    private static String document() {
        try {
            byte[] bytes = Files.readAllBytes(Paths.get("../shared/DOC.md"));
            return new String(bytes, StandardCharsets.ISO_8859_1).replaceAll("\\s+", " ");
        } catch (IOException e) {
            throw new IllegalStateException("no ../shared/DOC.md: tests are run from where README.md is", e);
        }
    }

    private static String told(String call) {
        return test + " [" + sentence + "]: " + call;
    }

    // ---- calls

    private static final class Call {
        private final String text;
        private final Method method;
        private final Object[] arguments;

        Call(String text) {
            String[] parts = text.substring(0, text.length() - 1).split("[(, ]+");
            this.text = text;
            method = FACE.get(parts[0]);
            if (method == null || method.getParameterCount() != parts.length - 1) throw new IllegalArgumentException(text);
            arguments = new Object[parts.length - 1];
            for (int i = 0; i < arguments.length; i++) {
                if (method.getParameterTypes()[i] == long.class) arguments[i] = Long.parseLong(parts[i + 1]);
                else arguments[i] = Integer.parseInt(parts[i + 1]);
            }
        }

        long on(TemplatePress object) {
            try {
                return ((Number) method.invoke(object, arguments)).longValue();
            } catch (InvocationTargetException e) {
                throw new IllegalStateException(told(text) + " has thrown", e.getCause());
            } catch (IllegalAccessException e) {
                throw new IllegalStateException(text, e);
            }
        }
    }

    private static Map<String, Method> face() {
        Map<String, Method> all = new HashMap<>();
        for (Method m : TemplatePress.class.getDeclaredMethods()) {
            if (!Modifier.isPublic(m.getModifiers())) continue;
            // spares a look at each call's rights
            m.setAccessible(true);
            all.put(m.getName(), m);
        }
        return all;
    }

    private static Call known(String text) {
        return KNOWN.computeIfAbsent(text, Call::new);
    }

    /** Makes a call, whatever its answer. */
    long make(String call) {
        calls.add(known(call));
        if (calls.size() > CALLS) throw new IllegalStateException(told(call) + ": a run of more than " + CALLS + " calls");
        return known(call).on(x);
    }

    Run due(String call, long want) {
        Check.due(told(call), make(call), want);
        return this;
    }

    /** As due(); and later calls show nothing of it, but those that begin with one of the texts. */
    Run refused(String call, long want, String... but) {
        List<Call> without = new ArrayList<>(calls);
        due(call, want);
        compare(call, without, but);
        return this;
    }

    /** A call of which nothing is shown behind it, whatever its answer. */
    Run asked(String call) {
        List<Call> without = new ArrayList<>(calls);
        make(call);
        compare(call, without);
        return this;
    }

    /** As refused(), of a call that reads THE TAPE: that is empty behind it. */
    Run refusedReading(String call, long want, String... but) {
        List<Call> without = new ArrayList<>(calls);
        without.add(known("clear()"));
        due(call, want);
        compare(call, without, but);
        return this;
    }

    // ---- what is shown behind a call

    private static List<Call> questions() {
        List<Call> all = new ArrayList<>();
        for (int v = 0; v < 8; v++) {
            for (int what = 0; what < 4; what++) all.add(known("of(" + v + ", " + what + ")"));
            for (int i = 0; i < 54; i++) all.add(known("shown(" + v + ", " + i + ")"));
        }
        for (int k = 0; k < 6; k++) {
            for (int what = 0; what < 7; what++) all.add(known("has(" + k + ", " + what + ")"));
        }
        for (int what = 0; what < 8; what++) all.add(known("told(" + what + ")"));
        for (int i = 0; i < 400; i++) all.add(known("page(" + i + ")"));
        for (int i = 0; i < 54; i++) {
            for (int what = 0; what < 3; what++) all.add(known("why(" + i + ", " + what + ")"));
        }
        for (int row = 0; row < 6; row++) {
            for (int i = 0; i < 60; i++) all.add(known("get(" + row + ", " + i + ")"));
        }
        return all;
    }

    private static List<Call> ofAPage() {
        List<Call> all = new ArrayList<>();
        for (int what : new int[] {0, 1, 5, 6, 7}) all.add(known("told(" + what + ")"));
        for (int i = 0; i < 30; i++) all.add(known("page(" + i + ")"));
        for (int i = 0; i < 9; i++) {
            for (int what = 0; what < 3; what++) all.add(known("why(" + i + ", " + what + ")"));
        }
        return all;
    }

    private void compare(String call, List<Call> without, String... but) {
        boolean same = alike(call, without, QUESTIONS, but)
            && alike(call, without, QUESTIONS, but, "undo()")
            && alike(call, without, QUESTIONS, but, "text(0)")
            && alike(call, without, OF_A_PAGE, but, "template(5)", "press(5)");
        for (int k = 0; k < 6 && same; k++) same = alike(call, without, OF_A_PAGE, but, "press(" + k + ")");
    }

    /** Whether all questions behind the calls of this run are answered as behind the others. */
    private boolean alike(String call, List<Call> without, List<Call> questions, String[] but, String... first) {
        for (String f : first) if (beginsWithOne(f, but)) return true;
        int room = CALLS - Math.max(calls.size(), without.size()) - first.length;
        if (room < 50) throw new IllegalStateException(told(call) + ": no room to ask behind it");
        for (int from = 0; from < questions.size(); from += room) {
            TemplatePress one = replayed(calls);
            TemplatePress other = replayed(without);
            for (String f : first) if (!isSame(call, known(f), one, other)) return false;
            for (int i = from; i < Math.min(from + room, questions.size()); i++) {
                Call question = questions.get(i);
                if (!beginsWithOne(question.text, but) && !isSame(call, question, one, other)) return false;
            }
        }
        Check.due(told(call) + ", and what is shown behind it", 0, 0);
        return true;
    }

    private static boolean isSame(String call, Call question, TemplatePress one, TemplatePress other) {
        long got = question.on(one);
        long want = question.on(other);
        if (got != want) Check.due(told(call) + ", and behind it " + question.text, got, want);
        return got == want;
    }

    private static TemplatePress replayed(List<Call> calls) {
        TemplatePress object = new TemplatePress();
        for (Call c : calls) c.on(object);
        return object;
    }

    private static boolean beginsWithOne(String text, String[] beginnings) {
        for (String b : beginnings) if (text.startsWith(b)) return true;
        return false;
    }

    // ---- several calls at once

    Run feed(String bytes) {
        for (int i = 0; i < bytes.length(); i++) make("feed(" + (int) bytes.charAt(i) + ")");
        return this;
    }

    Run text(int variable, String bytes) {
        feed(bytes).make("text(" + variable + ")");
        return this;
    }

    Run list(int variable, int... items) {
        make("list(" + variable + ", " + items.length + ")");
        for (int i = 0; i < items.length; i++) make("item(" + variable + ", " + i + ", " + items[i] + ")");
        return this;
    }

    Run template(int k, String text, long nodes) {
        return feed(text).due("template(" + k + ")", nodes);
    }

    /** TEMPLATES 0, 1 and so on, which are read without a fault. */
    Run templates(String... texts) {
        for (int k = 0; k < texts.length; k++) {
            feed(texts[k]);
            Check.due(told(texts[k] + " is a T"), make("template(" + k + ")") >= 0 ? 1 : 0, 1);
        }
        return this;
    }

    Run filter(int variable, String filters, long want) {
        return feed(filters).due("filter(" + variable + ")", want);
    }

    /** A VARIABLE SHOWN, and nothing behind that. */
    Run shows(int variable, String bytes) {
        due("of(" + variable + ", 1)", bytes.length());
        for (int i = 0; i < bytes.length(); i++) due("shown(" + variable + ", " + i + ")", bytes.charAt(i));
        return due("shown(" + variable + ", " + bytes.length() + ")", -1);
    }

    /** THE PAGE, and nothing behind it. */
    Run page(String bytes) {
        due("told(0)", bytes.length());
        for (int i = 0; i < bytes.length(); i++) due("page(" + i + ")", bytes.charAt(i));
        return due("page(" + bytes.length() + ")", -1);
    }

    /** The links of WHY, each as template.line.sort, and no more. */
    Run why(String links) {
        String[] all = links.isEmpty() ? new String[0] : links.split(" ");
        due("told(1)", all.length);
        for (int i = 0; i < all.length; i++) {
            String[] numbers = all[i].split("\\.");
            for (int what = 0; what < 3; what++) due("why(" + i + ", " + what + ")", Long.parseLong(numbers[what]));
        }
        return due("why(" + all.length + ", 0)", -1);
    }

    Run pressed(int k, String bytes) {
        return due("press(" + k + ")", bytes.length()).page(bytes);
    }

    /** A call that is answered -20, with its links of WHY. */
    Run fails(String call, String links) {
        return refused(call, -20, REASONS).why(links);
    }
}
