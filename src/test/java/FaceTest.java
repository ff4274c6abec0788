import java.lang.reflect.Constructor;
import java.lang.reflect.Field;
import java.lang.reflect.Method;
import java.lang.reflect.Modifier;
import java.util.Set;
import java.util.TreeSet;

/** The public face: what the document lists, and nothing else that is not private. */
public final class FaceTest {
    private static final Set<String> METHODS = Set.of(
            "void move(int,int,int,int,int,int)", "boolean free(int,int)", "int moveAt(int,int,int)", "void clear()",
            "int operation(int,int,int,int,int)", "int forget()", "int compile()", "int judge()", "int fault(int)",
            "void reset()", "int run(int)", "void poke(int,int)", "int peek(int)", "int state(int)", "int done(int)");

    public static void main(String[] args) {
        Class<?> face = MoveDesk.class;
        Check.yes("the class is public and final",
                Modifier.isPublic(face.getModifiers()) && Modifier.isFinal(face.getModifiers()));
        Check.same("NONE", MoveDesk.NONE, -1);
        checkMethods(face);
        for (Field field : face.getDeclaredFields()) {
            Check.yes("field " + field, Modifier.isPrivate(field.getModifiers()) || field.getName().equals("NONE"));
        }
        Constructor<?>[] constructors = face.getDeclaredConstructors();
        Check.same("constructors", constructors.length, 1);
        Check.yes("constructor " + constructors[0],
                constructors[0].toString().equals("public MoveDesk(int,int,int)"));
        for (Class<?> inside : face.getDeclaredClasses()) {
            Check.no("public or protected " + inside,
                    Modifier.isPublic(inside.getModifiers()) || Modifier.isProtected(inside.getModifiers()));
            checkNamesInside(face, inside);
        }
        Check.end();
    }

    private static void checkMethods(Class<?> face) {
        Set<String> found = new TreeSet<>();
        for (Method method : face.getDeclaredMethods()) {
            int modifiers = method.getModifiers();
            if (Modifier.isPublic(modifiers)) {
                Check.no("static " + method, Modifier.isStatic(modifiers));
                found.add(signature(method));
            } else {
                Check.yes("private " + method, Modifier.isPrivate(modifiers));
            }
        }
        Check.yes("public methods " + found, found.equals(METHODS));
    }

    /** LANGUAGE.md, rule 1: no private method bears the name of a public one. */
    private static void checkNamesInside(Class<?> face, Class<?> inside) {
        for (Method method : inside.getDeclaredMethods()) {
            for (Method open : face.getDeclaredMethods()) {
                Check.no("the name of " + method, Modifier.isPrivate(method.getModifiers())
                        && Modifier.isPublic(open.getModifiers()) && open.getName().equals(method.getName()));
            }
        }
    }

    private static String signature(Method method) {
        StringBuilder text = new StringBuilder(method.getReturnType() + " " + method.getName() + "(");
        for (int i = 0; i < method.getParameterCount(); i++) {
            text.append(i == 0 ? "" : ",").append(method.getParameterTypes()[i]);
        }
        return text.append(")").toString();
    }
}
