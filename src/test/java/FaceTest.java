import java.lang.reflect.Constructor;
import java.lang.reflect.Field;
import java.lang.reflect.Method;
import java.lang.reflect.Modifier;
import java.util.Set;
import java.util.TreeSet;

/** The public face: the constructor and the thirteen methods of the document, and just these. */
public final class FaceTest {
    private static final String[] FACE = {
        "public CurveDesk()",
        "public int CurveDesk.add(int,int)",
        "public int CurveDesk.coefficient(int)",
        "public int CurveDesk.count()",
        "public int CurveDesk.curve(int,int,int)",
        "public int CurveDesk.division(int,int)",
        "public int CurveDesk.negative(int)",
        "public boolean CurveDesk.on(int)",
        "public int CurveDesk.order(int)",
        "public int CurveDesk.point(int)",
        "public int CurveDesk.roots(int)",
        "public int CurveDesk.times(int,int)",
        "public int CurveDesk.trace(int)",
        "public int CurveDesk.twist(int)",
    };

    public static void main(String[] args) {
        Set<String> want = new TreeSet<>(Set.of(FACE));
        Set<String> got = new TreeSet<>();
        for (Constructor<?> c : CurveDesk.class.getDeclaredConstructors()) {
            if (!Modifier.isPrivate(c.getModifiers())) {
                got.add(c.toString());
            }
        }
        for (Method m : CurveDesk.class.getDeclaredMethods()) {
            if (!Modifier.isPrivate(m.getModifiers())) {
                got.add(m.toString());
            }
        }
        for (Field f : CurveDesk.class.getDeclaredFields()) {
            if (!Modifier.isPrivate(f.getModifiers())) {
                got.add(f.toString());
            }
        }
        int modifiers = CurveDesk.class.getModifiers();
        boolean publicAndFinal = Modifier.isPublic(modifiers) && Modifier.isFinal(modifiers);
        if (!want.equals(got) || !publicAndFinal) {
            System.out.println("the face is " + got + ", due is " + want + ", public and final");
            System.exit(1);
        }
        System.out.println("the face is as due");
    }
}
