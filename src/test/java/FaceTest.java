import java.lang.reflect.Constructor;
import java.lang.reflect.Field;
import java.lang.reflect.Method;
import java.lang.reflect.Modifier;
import java.util.Arrays;
import java.util.Set;
import java.util.TreeSet;

/** The class's face: what the document has, and nothing more. */
public final class FaceTest {
    private static final String[] FACE = {
        "int feed(long, long, long)", "int republic()", "int term()", "int ware(int, int)", "int party(int, int)",
        "int work(int, int)", "int stop(int, int)", "boolean join(int, int)", "boolean lend(int, int, int)",
        "int week()", "boolean undo()", "int judged(int)", "int when(int)", "int caught(int)", "int joined(int, int)",
        "int fines(int)", "int round()", "int most(int, int)", "int ways(int)", "int pivot(int)", "int power(int)",
        "int core()", "int lean()", "int shift(int, int)", "int rival(int)", "int friends()", "int bloc(int)",
        "int orphans()", "boolean say(int, boolean)", "int wholes(int)", "int ask()", "int chance(int, int, int)",
        "int rests(int, int, int, int)", "int terms(int, int, int)", "boolean mark(int, boolean)", "int count(int)"};

    public static void main(String[] args) throws Exception {
        Class<?> c = HalfShop.class;
        Check.due("public and final", Modifier.isPublic(c.getModifiers()) && Modifier.isFinal(c.getModifiers()), true);
        Set<String> names = new TreeSet<>();
        Set<String> seen = new TreeSet<>();
        for (Method m : c.getDeclaredMethods()) {
            if (Modifier.isPublic(m.getModifiers())) {
                names.add(m.getName());
                seen.add(told(m));
            }
        }
        Check.due("the methods " + seen, seen.equals(new TreeSet<>(Arrays.asList(FACE))), true);
        for (Method m : c.getDeclaredMethods()) {
            boolean hidden = Modifier.isPrivate(m.getModifiers()) && !names.contains(m.getName());
            Check.due("private " + m, hidden || Modifier.isPublic(m.getModifiers()), true);
        }
        for (Field f : c.getDeclaredFields()) {
            Check.due("private " + f, Modifier.isPrivate(f.getModifiers()), !f.getName().equals("NONE"));
        }
        for (Class<?> inner : c.getDeclaredClasses()) {
            Check.due("static " + inner, Modifier.isStatic(inner.getModifiers()), true);
            Check.due("not public " + inner, Modifier.isPublic(inner.getModifiers()), false);
            for (Method m : inner.getDeclaredMethods()) {
                Check.due("no name of the face " + m, names.contains(m.getName()), false);
            }
        }
        Check.due("classes", c.getDeclaredClasses().length <= 12, true);
        Check.due("constructors", c.getDeclaredConstructors().length, 1);
        Constructor<?> made = c.getDeclaredConstructor();
        Check.due("public constructor", Modifier.isPublic(made.getModifiers()), true);
        Check.due("NONE", HalfShop.NONE, -1);
        Check.end();
    }

    private static String told(Method m) {
        StringBuilder s = new StringBuilder();
        s.append(m.getReturnType().getName()).append(' ').append(m.getName()).append('(');
        for (Class<?> p : m.getParameterTypes()) {
            s.append(s.charAt(s.length() - 1) == '(' ? "" : ", ").append(p.getName());
        }
        return s.append(')').toString();
    }
}
