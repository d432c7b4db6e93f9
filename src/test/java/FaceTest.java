import java.lang.reflect.Constructor;
import java.lang.reflect.Field;
import java.lang.reflect.Method;
import java.lang.reflect.Modifier;
import java.util.Arrays;
import java.util.TreeSet;

/** The public face of the document, and nothing beside it. */
final class FaceTest {
    private static final String[] METHODS = {"none(int)int", "number(int,int)int", "real(int,int,int)int", "text(int)int",
        "list(int,int)int", "item(int,int,int)int", "of(int,int)int", "shown(int,int)int", "feed(int)int", "clear()int",
        "template(int)int", "drop(int)int", "has(int,int)int", "look(int,int)int", "press(int)int", "filter(int)int",
        "page(int)int", "why(int,int)int", "budget(int)int", "told(int)int", "row(int,int,int)int", "set(int,int,long)int",
        "get(int,int)long", "move(int,int,int,int,int)int", "twin(int,int)int", "lay(int,int)int", "judge(int,int)int",
        "image()int", "undo()int"};

    public static void main(String[] args) {
        Class<?> face = TemplatePress.class;
        Check.due("public and final", face.getModifiers() & (Modifier.PUBLIC | Modifier.FINAL), Modifier.PUBLIC | Modifier.FINAL);
        TreeSet<String> open = new TreeSet<>();
        TreeSet<String> names = new TreeSet<>();
        for (Method m : face.getDeclaredMethods()) {
            if (!Modifier.isPrivate(m.getModifiers())) {
                open.add(told(m));
                names.add(m.getName());
            }
        }
        Check.due("the methods", open.toString(), new TreeSet<>(Arrays.asList(METHODS)).toString());
        TreeSet<String> again = new TreeSet<>();
        for (Class<?> c : face.getDeclaredClasses()) {
            for (Method m : c.getDeclaredMethods()) if (names.contains(m.getName())) again.add(c.getName() + "." + m.getName());
        }
        for (Method m : face.getDeclaredMethods()) {
            if (Modifier.isPrivate(m.getModifiers()) && names.contains(m.getName())) again.add(m.getName());
        }
        Check.due("private methods with a public one's name", again.toString(), "[]");
        TreeSet<String> fields = new TreeSet<>();
        for (Field f : face.getDeclaredFields()) if (!Modifier.isPrivate(f.getModifiers())) fields.add(f.toGenericString());
        Check.due("the constants", fields.toString(), "[public static final int TemplatePress.BAD, "
            + "public static final int TemplatePress.FULL, public static final int TemplatePress.NONE, "
            + "public static final int TemplatePress.STATE, public static final long TemplatePress.NO]");
        Constructor<?>[] made = face.getDeclaredConstructors();
        Check.due("constructors", made.length, 1);
        Check.due("NONE", TemplatePress.NONE, -1);
        Check.due("BAD", TemplatePress.BAD, -2);
        Check.due("STATE", TemplatePress.STATE, -3);
        Check.due("FULL", TemplatePress.FULL, -4);
        Check.due("NO", TemplatePress.NO, Long.MIN_VALUE);
        Check.end();
    }

    private static String told(Method m) {
        StringBuilder b = new StringBuilder(m.getName()).append('(');
        for (Class<?> p : m.getParameterTypes()) b.append(b.charAt(b.length() - 1) == '(' ? "" : ",").append(p.getName());
        return b.append(')').append(m.getReturnType().getName()).toString();
    }
}
