import java.lang.reflect.Constructor;
import java.lang.reflect.Field;
import java.lang.reflect.Method;
import java.lang.reflect.Modifier;
import java.util.Set;
import java.util.TreeSet;

/** The public face of the document, and the rules of LANGUAGE.md (1, 2, 4, 5 and 10) that reflection can see. */
public final class FaceTest {
    private static final Set<String> FACE = Set.of(
            "public static final int Metronome.BAD_FLOW",
            "public static final int Metronome.BAD_KIND",
            "public static final int Metronome.CIRCLE",
            "public Metronome()",
            "public int Metronome.define(int,int,int,int)",
            "public int Metronome.input(int,int)",
            "public int Metronome.step(int)",
            "public void Metronome.reset()",
            "public int Metronome.value(int)",
            "public int Metronome.kind(int)",
            "public boolean Metronome.needs(int,int)",
            "public int Metronome.instants()",
            "public int Metronome.next(int)");

    public static void main(String[] args) {
        Check.says("The public face");
        Class<?> face = Metronome.class;
        int modifiers = face.getModifiers();
        Check.due("class is public and final", Modifier.isPublic(modifiers) && Modifier.isFinal(modifiers), true);
        Check.due("nested classes", face.getDeclaredClasses().length, 0);
        Check.due("interfaces", face.getInterfaces().length, 0);
        Set<String> seen = new TreeSet<>();
        Set<String> names = new TreeSet<>();
        for (Constructor<?> c : face.getDeclaredConstructors()) {
            see(seen, c.toString(), c.getModifiers());
        }
        for (Method m : face.getDeclaredMethods()) {
            see(seen, m.toString(), m.getModifiers());
            Check.due(m + " has a name of its own", names.add(m.getName()), true);
            Check.due(m + " has at most 7 parameters", m.getParameterCount() <= 7, true);
            Check.due(m + " answers a number or nothing", m.getReturnType().isPrimitive(), true);
        }
        for (Field f : face.getDeclaredFields()) {
            see(seen, f.toString(), f.getModifiers());
            fieldKeepsTheRules(f);
        }
        Check.due("the face is " + seen + " and that is as due", seen.equals(FACE), true);
        Check.end();
    }

    private static void see(Set<String> seen, String member, int modifiers) {
        if (!Modifier.isPrivate(modifiers)) {
            seen.add(member);
        }
    }

    private static void fieldKeepsTheRules(Field f) {
        Class<?> type = f.getType();
        Class<?> plain = type.isArray() ? type.getComponentType() : type;
        Check.due(f + " is of numbers", plain.isPrimitive() && plain != float.class && plain != double.class, true);
        if (Modifier.isStatic(f.getModifiers())) {
            boolean constant = Modifier.isFinal(f.getModifiers()) && (type == int.class || type == long.class);
            Check.due(f + " is a constant", constant, true);
        } else if (type.isArray()) {
            Check.due(f + " is final", Modifier.isFinal(f.getModifiers()), true);
        }
    }
}
