import java.lang.reflect.Constructor;
import java.lang.reflect.Field;
import java.lang.reflect.Member;
import java.lang.reflect.Method;
import java.lang.reflect.Modifier;
import java.util.Arrays;
import java.util.TreeSet;

/** The public face: just the document's members, with its exceptions. */
public final class FaceTest {
    private static final String B = "IndexOutOfBoundsException";
    private static final String A = "IllegalArgumentException";
    private static final String S = "IllegalStateException";

    private static final String[] FACE = {
        "append(int) " + A + " " + S, "clearText()", "errorPosition()", "load() " + S, "about(int) " + A,
        "measureOf(int,int) " + B + " " + A, "tellerOf(int,int) " + B + " " + A, "steepleOf(int,int) " + B + " " + A,
        "vote(int,int) " + B + " " + A, "best(int,int,int) " + B + " " + A, "setting(int) " + A,
        "measure(int,int,int,int,int,int,int) " + B + " " + A + " " + S, "drop(int) " + B,
        "trust(int,int) " + B + " " + A, "evening()", "survey(int,int) " + B + " " + A, "set(int,int) " + A,
        "undo() " + S, "apart(int,int) " + B, "against(int) " + B, "without(int,int) " + B + " " + A,
        "swings(int,int) " + B, "truest()", "runScript(int,long) " + A, "simulate(long,int) " + A,
        "save(int) " + B, "restore(int) " + B + " " + S,
    };

    public static void main(String[] args) {
        Check check = new Check("FaceTest");
        Class<?> face = SteepleWords.class;
        check.isTrue("the class is public and final",
                Modifier.isPublic(face.getModifiers()) && Modifier.isFinal(face.getModifiers()));
        TreeSet<String> names = new TreeSet<>();
        TreeSet<String> found = new TreeSet<>();
        for (Method m : face.getDeclaredMethods()) {
            if (Modifier.isPublic(m.getModifiers())) {
                names.add(m.getName());
                found.add(told(m));
                check.isTrue(m + " answers an int, and is not static",
                        m.getReturnType() == int.class && !Modifier.isStatic(m.getModifiers()));
            }
        }
        TreeSet<String> due = new TreeSet<>(Arrays.asList(FACE));
        check.isTrue("the public methods are the document's: " + found, found.equals(due));
        for (Method m : face.getDeclaredMethods()) {
            check.isTrue(m + " is public or private", isPublicOrPrivate(m));
            check.isTrue(m + " bears no public name", Modifier.isPublic(m.getModifiers()) || !names.contains(m.getName()));
        }
        checkFields(check, face);
        checkInside(check, face);
        Constructor<?>[] makers = face.getDeclaredConstructors();
        check.isTrue("one public constructor without parameters", makers.length == 1
                && Modifier.isPublic(makers[0].getModifiers()) && makers[0].getParameterCount() == 0);
        check.due("NONE", SteepleWords.NONE, -1);
        check.end();
    }

    private static void checkFields(Check check, Class<?> face) {
        int shown = 0;
        for (Field f : face.getDeclaredFields()) {
            check.isTrue(f + " is public or private", isPublicOrPrivate(f));
            shown += Modifier.isPublic(f.getModifiers()) ? 1 : 0;
            check.isTrue(f + " is a constant where it is static",
                    !Modifier.isStatic(f.getModifiers()) || Modifier.isFinal(f.getModifiers()));
        }
        check.due("public fields", shown, 1);
    }

    private static void checkInside(Check check, Class<?> face) {
        for (Class<?> inside : face.getDeclaredClasses()) {
            check.isTrue(inside + " is private and static",
                    Modifier.isPrivate(inside.getModifiers()) && Modifier.isStatic(inside.getModifiers()));
            for (Field f : inside.getDeclaredFields()) {
                check.isTrue(f + " is a constant where it is static",
                        !Modifier.isStatic(f.getModifiers()) || Modifier.isFinal(f.getModifiers()));
            }
        }
    }

    private static boolean isPublicOrPrivate(Member member) {
        return Modifier.isPublic(member.getModifiers()) || Modifier.isPrivate(member.getModifiers());
    }

    private static String told(Method m) {
        StringBuilder told = new StringBuilder(m.getName()).append('(');
        for (int i = 0; i < m.getParameterTypes().length; i++) {
            told.append(i == 0 ? "" : ",").append(m.getParameterTypes()[i].getSimpleName());
        }
        told.append(')');
        for (Class<?> e : m.getExceptionTypes()) {
            told.append(' ').append(e.getSimpleName());
        }
        return told.toString();
    }
}
