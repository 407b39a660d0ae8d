import java.lang.reflect.Field;
import java.lang.reflect.Method;
import java.lang.reflect.Modifier;
import java.util.Arrays;
import java.util.Set;
import java.util.TreeSet;

/** The face of the class (LANGUAGE.md, rules 1, 2 and 5) and promise 1. */
public final class FaceTest {
    public static void main(String[] args) {
        Check check = new Check();
        face(check);
        privateNames(check);
        statics(check, HiringHall.class);
        for (Class<?> inside : HiringHall.class.getDeclaredClasses()) {
            check.yes(inside + " is static", Modifier.isStatic(inside.getModifiers()));
            statics(check, inside);
        }
        newObject(check);
        check.end();
    }

    private static void face(Check check) {
        Set<String> seen = new TreeSet<>();
        for (Method method : HiringHall.class.getDeclaredMethods()) {
            if (!Modifier.isPrivate(method.getModifiers())) {
                check.yes(method + " is public", Modifier.isPublic(method.getModifiers()));
                String kinds = Arrays.toString(method.getParameterTypes()).replaceAll("[\\[\\]]", "");
                seen.add(method.getReturnType() + " " + method.getName() + "(" + kinds + ")");
            }
        }
        Set<String> due = new TreeSet<>(Document.face());
        check.due("methods of the document's face", due.size(), 19);
        check.yes("methods " + seen + ", due are " + due, seen.equals(due));
        check.yes("the class is final", Modifier.isFinal(HiringHall.class.getModifiers()));
        check.due("constructors", HiringHall.class.getDeclaredConstructors().length, 1);
        check.due("public fields", HiringHall.class.getFields().length, 1);
        check.due("NONE", HiringHall.NONE, -1);
    }

    private static void privateNames(Check check) {
        Set<String> names = new TreeSet<>();
        for (Method method : HiringHall.class.getMethods()) {
            names.add(method.getName());
        }
        for (Method method : HiringHall.class.getDeclaredMethods()) {
            check.no(method + " has a public name", Modifier.isPrivate(method.getModifiers())
                    && names.contains(method.getName()));
        }
        for (Class<?> inside : HiringHall.class.getDeclaredClasses()) {
            for (Method method : inside.getDeclaredMethods()) {
                check.no(method + " has a public name", names.contains(method.getName()));
            }
        }
    }

    private static void statics(Check check, Class<?> kind) {
        for (Field field : kind.getDeclaredFields()) {
            boolean isStatic = Modifier.isStatic(field.getModifiers());
            check.no(field + " is static and can change", isStatic && !Modifier.isFinal(field.getModifiers()));
        }
    }

    private static void newObject(Check check) {
        HiringHall hall = new HiringHall();
        for (int what = 0; what < 7; what++) {
            check.due("count(" + what + ") of a new object", hall.count(what), 0);
        }
        for (int what = 0; what < 8; what++) {
            check.due("law(" + what + ", 0, 0) of a new object", hall.law(what, 0, 0), 0);
        }
        check.due("fault(0) of a new object", hall.fault(0), 0);
        check.due("fault(1) of a new object", hall.fault(1), -1);
        check.due("differs(0, 0) of a new object", hall.differs(0, 0), -1);
        check.due("list(0, 0) of a new object", hall.list(0, 0), -1);
        check.due("vote(1, 0) on an empty tape", hall.vote(1, 0), -2);
    }
}
