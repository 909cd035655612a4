import java.lang.reflect.Constructor;
import java.lang.reflect.Field;
import java.lang.reflect.Member;
import java.lang.reflect.Method;
import java.lang.reflect.Modifier;
import java.util.Set;
import java.util.TreeSet;

/** The face is the document's, and nothing beside it is open to callers. */
public final class FaceTest {
    static final String[] METHODS = {
        "int part(int,int,int)", "int test(int,int)", "int noTests(int,int)",
        "int bypass(int,int,int)", "int bypassed(int,int,int)", "int group(int,int)",
        "int vote(int,int,int,int,int,int)", "int share(int,int)", "int below(int,int)",
        "int shared(int,int)", "long chance(int,int)", "long over(int,int,int)",
        "int broken(int,int,int,long)", "long nothing(int)", "long matters(int,int,int)",
        "int most(int,int)", "int cost(int,int)", "int plan(int,int,int,int,long,int)",
        "int count(int)",
    };

    public static void main(String[] args) {
        Check check = new Check("FaceTest");
        int modifiers = SaveLoops.class.getModifiers();
        check.that("the class is public and final", Modifier.isPublic(modifiers) && Modifier.isFinal(modifiers));
        check.same("methods", new TreeSet<>(Set.of(METHODS)).toString(), openMethods().toString());
        check.same("constants", "[BAD, FULL, NO, NONE]", openFields().toString());
        Constructor<?>[] constructors = SaveLoops.class.getDeclaredConstructors();
        check.due("constructors", 1, constructors.length);
        check.that("constructor", Modifier.isPublic(constructors[0].getModifiers())
            && constructors[0].getParameterCount() == 0);
        check.due("BAD", -1, SaveLoops.BAD);
        check.due("NO", -2, SaveLoops.NO);
        check.due("FULL", -3, SaveLoops.FULL);
        check.due("NONE", -4, SaveLoops.NONE);
        checkPrivateNames(check);
        checkInsideClasses(check);
        check.end();
    }

    private static boolean isOpen(Member member) {
        return !Modifier.isPrivate(member.getModifiers()) && !member.isSynthetic();
    }

    private static Set<String> openMethods() {
        Set<String> found = new TreeSet<>();
        for (Method method : SaveLoops.class.getDeclaredMethods()) {
            if (isOpen(method)) {
                String mark = Modifier.isPublic(method.getModifiers()) ? "" : "not public: ";
                StringBuilder text = new StringBuilder(mark + method.getReturnType() + " " + method.getName() + "(");
                for (int i = 0; i < method.getParameterCount(); i++) {
                    text.append(i == 0 ? "" : ",").append(method.getParameterTypes()[i]);
                }
                found.add(text.append(")").toString());
            }
        }
        return found;
    }

    private static Set<String> openFields() {
        Set<String> found = new TreeSet<>();
        for (Field field : SaveLoops.class.getDeclaredFields()) {
            if (isOpen(field)) {
                found.add(field.getName());
            }
        }
        return found;
    }

    private static void checkPrivateNames(Check check) {
        Set<String> open = new TreeSet<>();
        for (String method : METHODS) {
            open.add(method.substring(method.indexOf(' ') + 1, method.indexOf('(')));
        }
        for (Method method : SaveLoops.class.getDeclaredMethods()) {
            check.that("no private method is named " + method.getName(),
                isOpen(method) || !open.contains(method.getName()));
            check.that("seven parameters at most in " + method.getName(), method.getParameterCount() <= 7);
        }
    }

    private static void checkInsideClasses(Check check) {
        for (Class<?> inside : SaveLoops.class.getDeclaredClasses()) {
            int modifiers = inside.getModifiers();
            check.that(inside + " is static and not public", Modifier.isStatic(modifiers)
                && !Modifier.isPublic(modifiers) && !Modifier.isProtected(modifiers));
            check.that(inside + " has 20 fields at most", inside.getDeclaredFields().length <= 20);
        }
    }
}
