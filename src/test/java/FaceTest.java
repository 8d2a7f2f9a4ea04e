import java.lang.reflect.Constructor;
import java.lang.reflect.Field;
import java.lang.reflect.Method;
import java.lang.reflect.Modifier;
import java.util.Arrays;
import java.util.List;
import java.util.Set;
import java.util.TreeSet;

/** The public face, and rules 1, 5 and 11 of LANGUAGE.md as far as the compiled class shows them. */
public final class FaceTest {
    private static final Due DUE = new Due("FaceTest");
    private static final List<String> FACE = List.of(
        "int room(int)", "int set(int,int,int)", "int wire(int,int,int)", "int wires(int,int,int,int)",
        "int pace(int)", "int time(int,int)", "int paceAt(int)", "int slows(int,int)", "int apart(int)",
        "int count(int)", "int hold(int,int)", "int together(int,int)", "int type(long,int)", "int piece()",
        "int sound(int)", "int fit(int)", "int clashes(int)", "int canon(int)", "int sea(int,int)",
        "int lose(int,int,int,boolean)", "int goes(int,int)", "int knows(int,int)", "int loss(long)",
        "int lost(int,int)", "int group()", "int clear()", "int most(int)", "int net()", "int image(int)",
        "int restore(int)", "int sheet(int,int,int)", "int drop(int)", "int item(int,int,int,int)",
        "int copy(int,int,int,int,int)");
    private static final List<String> CONSTANTS = List.of(
        "BAD -1", "NOT -2", "FULL -3", "NONE -4", "NULL -11", "CAST -12", "INDEX -13", "SIZE -14");

    public static void main(String[] args) throws IllegalAccessException {
        Class<?> face = ChoirWires.class;
        DUE.holds("public and final", face.getModifiers() == (Modifier.PUBLIC | Modifier.FINAL));
        constructors(face);
        methods(face);
        constants(face);
        classesInside(face);
        DUE.end();
    }

    private static void constructors(Class<?> face) {
        Constructor<?>[] all = face.getDeclaredConstructors();
        DUE.is("constructors", all.length, 1);
        DUE.holds("public, of none", Modifier.isPublic(all[0].getModifiers()) && all[0].getParameterCount() == 0);
    }

    private static void methods(Class<?> face) {
        Set<String> shown = new TreeSet<>();
        Set<String> names = new TreeSet<>();
        for (Method m : face.getDeclaredMethods()) {
            if (!Modifier.isPrivate(m.getModifiers())) {
                shown.add(m.getReturnType() + " " + m.getName() + types(m));
                names.add(m.getName());
            }
        }
        DUE.holds("the methods are " + shown, shown.equals(new TreeSet<>(FACE)));
        for (Method m : face.getDeclaredMethods()) {
            boolean hidden = Modifier.isPrivate(m.getModifiers());
            DUE.holds("rule 1, a private " + m.getName(), !hidden || !names.contains(m.getName()));
            DUE.holds("rule 11, parameters of " + m.getName(), m.getParameterCount() <= 7);
        }
        for (Class<?> c : face.getDeclaredClasses()) {
            methodsInside(c, names);
        }
    }

    private static void methodsInside(Class<?> c, Set<String> namesOfFace) {
        for (Method m : c.getDeclaredMethods()) {
            String name = c.getSimpleName() + "." + m.getName();
            DUE.holds("rule 1, name of " + name, !namesOfFace.contains(m.getName()));
            DUE.holds("rule 11, parameters of " + name, m.getParameterCount() <= 7);
        }
    }

    private static String types(Method m) {
        StringBuilder text = new StringBuilder("(");
        for (Class<?> c : m.getParameterTypes()) {
            text.append(text.length() > 1 ? "," : "").append(c);
        }
        return text.append(")").toString();
    }

    private static void constants(Class<?> face) throws IllegalAccessException {
        Set<String> shown = new TreeSet<>();
        for (Field f : face.getDeclaredFields()) {
            if (!Modifier.isPrivate(f.getModifiers())) {
                DUE.is("a constant " + f.getName(), f.getModifiers(),
                    Modifier.PUBLIC | Modifier.STATIC | Modifier.FINAL);
                DUE.holds("an int " + f.getName(), f.getType() == int.class);
                shown.add(f.getName() + " " + f.getInt(null));
            }
        }
        DUE.holds("the constants are " + shown, shown.equals(new TreeSet<>(CONSTANTS)));
    }

    private static void classesInside(Class<?> face) {
        Class<?>[] inside = face.getDeclaredClasses();
        DUE.holds("rule 11, classes", inside.length < 12);
        for (Class<?> c : inside) {
            boolean open = Modifier.isPublic(c.getModifiers()) || Modifier.isProtected(c.getModifiers());
            DUE.holds("rule 1, " + c.getName(), !open && Modifier.isStatic(c.getModifiers()));
            fieldsOf(c);
        }
        fieldsOf(face);
    }

    private static void fieldsOf(Class<?> c) {
        long fields = Arrays.stream(c.getDeclaredFields()).filter(f -> !Modifier.isStatic(f.getModifiers())).count();
        DUE.holds("rule 11, fields of " + c.getName(), fields <= 20);
        for (Field f : c.getDeclaredFields()) {
            boolean fixed = !Modifier.isStatic(f.getModifiers()) || Modifier.isFinal(f.getModifiers());
            DUE.holds("rule 5, " + c.getName() + "." + f.getName(), fixed);
        }
    }
}
