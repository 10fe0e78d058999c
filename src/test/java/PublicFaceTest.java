import java.lang.reflect.Constructor;
import java.lang.reflect.Field;
import java.lang.reflect.Member;
import java.lang.reflect.Method;
import java.lang.reflect.Modifier;
import java.util.Set;
import java.util.TreeSet;

/** The class shows the document's face and nothing else, and has no state outside its objects. */
public final class PublicFaceTest {
    private static final Set<String> FACE = Set.of(
            "int BAD", "int FULL", "int REFUSED", "SegmentSweep()",
            "int add(int, int)", "boolean remove(int)", "int segments()", "boolean meet(int, int)", "int meetings()",
            "int top(int, int)", "int bottom(int, int)", "int through(int)", "int degree(int)", "int on(int)",
            "int above(int)", "int below(int)", "int pieces()", "int groups()", "int faces()");

    public static void main(String[] args) {
        Due.is("BAD", SegmentSweep.BAD, -1);
        Due.is("FULL", SegmentSweep.FULL, -2);
        Due.is("REFUSED", SegmentSweep.REFUSED, -3);
        Due.is("class modifiers", SegmentSweep.class.getModifiers(), Modifier.PUBLIC | Modifier.FINAL);
        Due.is("nested classes", SegmentSweep.class.getDeclaredClasses().length, 0);
        checkMembers();
        checkFields();
        checkPrivateNames();
        Due.end();
    }

    private static void checkMembers() {
        Set<String> shown = new TreeSet<>();
        for (Field f : SegmentSweep.class.getDeclaredFields()) {
            show(shown, f, f.getType().getName() + " " + f.getName());
        }
        for (Constructor<?> c : SegmentSweep.class.getDeclaredConstructors()) {
            show(shown, c, "SegmentSweep(" + names(c.getParameterTypes()) + ")");
        }
        for (Method m : SegmentSweep.class.getDeclaredMethods()) {
            String text = m.getReturnType().getName() + " " + m.getName() + "(" + names(m.getParameterTypes()) + ")";
            show(shown, m, text);
        }
        for (String member : FACE) {
            Due.is("has " + member, shown.contains(member), true);
        }
        for (String member : shown) {
            Due.is("the document has " + member, FACE.contains(member), true);
        }
    }

    private static void show(Set<String> shown, Member member, String text) {
        boolean isPrivate = Modifier.isPrivate(member.getModifiers());
        if (!isPrivate) {
            Due.is(text + " is public", Modifier.isPublic(member.getModifiers()), true);
            shown.add(text);
        }
    }

    private static void checkFields() {
        for (Field f : SegmentSweep.class.getDeclaredFields()) {
            Class<?> type = f.getType();
            int both = Modifier.STATIC | Modifier.FINAL;
            if (Modifier.isStatic(f.getModifiers())) {
                Due.is(f + " is a constant", (f.getModifiers() & both) == both && type.isPrimitive(), true);
            }
            Class<?> item = type.isArray() ? type.getComponentType() : type;
            boolean fits = item.isPrimitive() && item != float.class && item != double.class;
            Due.is(f + " has an allowed type", fits, true);
        }
    }

    /** Rule 1 of the language: no private method bears the name of a public one. */
    private static void checkPrivateNames() {
        for (Method m : SegmentSweep.class.getDeclaredMethods()) {
            boolean isFree = FACE.stream().noneMatch(member -> member.contains(" " + m.getName() + "("));
            Due.is(m + " is public or has a name of its own", Modifier.isPublic(m.getModifiers()) || isFree, true);
        }
    }

    private static String names(Class<?>[] types) {
        StringBuilder text = new StringBuilder();
        for (Class<?> type : types) {
            text.append(text.length() == 0 ? "" : ", ").append(type.getName());
        }
        return text.toString();
    }
}
