import java.lang.reflect.Constructor;
import java.lang.reflect.Field;
import java.lang.reflect.Method;
import java.lang.reflect.Modifier;
import java.util.ArrayList;
import java.util.Arrays;
import java.util.List;
import java.util.TreeSet;

/** The public face is the document's, with its constants and its exceptions, and nothing beside it. */
public final class FaceTest {
    private static final String[] DUE = {
        "boolean type(int, int, int, boolean) IndexOutOfBoundsException IllegalArgumentException",
        "int make(int) IndexOutOfBoundsException",
        "int hold(int)",
        "int loose(int)",
        "int set(int, int, int) IndexOutOfBoundsException",
        "int get(int, int) IndexOutOfBoundsException",
        "int wish()",
        "int collect()",
        "int pack()",
        "int weak(int, int) IndexOutOfBoundsException",
        "int seen(int) IndexOutOfBoundsException",
        "int object(int, int) IndexOutOfBoundsException",
        "int count(int) IndexOutOfBoundsException",
        "int listed(int)",
        "int freed(int)",
        "int at(int) IndexOutOfBoundsException",
    };

    private FaceTest() {
    }

    public static void main(String[] args) {
        Check.part("face");
        Check.same("NONE", RingHeap.NONE, -1);
        Check.same("FULL", RingHeap.FULL, -2);
        Check.holds("the class is public and final", Modifier.isPublic(RingHeap.class.getModifiers())
                && Modifier.isFinal(RingHeap.class.getModifiers()));
        methods();
        fields();
        Constructor<?>[] constructors = RingHeap.class.getDeclaredConstructors();
        Check.same("constructors", constructors.length, 1);
        Check.holds("the constructor is public and takes nothing",
                Modifier.isPublic(constructors[0].getModifiers()) && constructors[0].getParameterCount() == 0);
        Check.end();
    }

    private static void methods() {
        List<String> due = new ArrayList<>(Arrays.asList(DUE));
        TreeSet<String> publicNames = new TreeSet<>();
        for (Method m : RingHeap.class.getDeclaredMethods()) {
            if (Modifier.isPublic(m.getModifiers())) {
                publicNames.add(m.getName());
                Check.holds("method of the face: " + told(m), due.remove(told(m)));
            } else {
                Check.holds("private: " + told(m), Modifier.isPrivate(m.getModifiers()) || m.isSynthetic());
            }
        }
        Check.same("methods that miss: " + due, due.size(), 0);
        for (Class<?> inside : RingHeap.class.getDeclaredClasses()) {
            Check.holds("static class inside " + inside, Modifier.isStatic(inside.getModifiers()));
            for (Method m : inside.getDeclaredMethods()) {
                Check.holds("a public one's name inside: " + told(m), !publicNames.contains(m.getName()));
            }
        }
    }

    private static void fields() {
        for (Field f : RingHeap.class.getDeclaredFields()) {
            boolean face = f.getName().equals("NONE") || f.getName().equals("FULL");
            Check.holds("field " + f, face ? Modifier.isPublic(f.getModifiers()) : Modifier.isPrivate(f.getModifiers()));
            Check.holds("static is final: " + f, !Modifier.isStatic(f.getModifiers()) || Modifier.isFinal(f.getModifiers()));
        }
    }

    private static String told(Method m) {
        StringBuilder text = new StringBuilder(m.getReturnType().getSimpleName() + " " + m.getName() + "(");
        for (int i = 0; i < m.getParameterTypes().length; i++) {
            text.append(i == 0 ? "" : ", ").append(m.getParameterTypes()[i].getSimpleName());
        }
        text.append(")");
        for (Class<?> e : m.getExceptionTypes()) {
            text.append(" ").append(e.getSimpleName());
        }
        return text.toString();
    }
}
