import java.lang.reflect.Constructor;
import java.lang.reflect.Field;
import java.lang.reflect.Member;
import java.lang.reflect.Method;
import java.lang.reflect.Modifier;
import java.util.Set;
import java.util.TreeSet;

/** The public face is the document's, and everything else is private. */
public final class FaceTest {
    private static final Set<String> FACE = Set.of("add3", "remove1", "shift2", "goal2", "lines0",
            "empty0", "valueTop0", "valueBottom0", "xTop0", "xBottom0", "yTop0", "yBottom0",
            "tight0", "redundant1", "corners0", "inside3", "grid0");

    public static void main(String[] args) {
        Class<?> type = HalfPlaneSolver.class;
        Check.due("modifiers", type.getModifiers(), Modifier.PUBLIC | Modifier.FINAL);
        Check.due("constructors", type.getDeclaredConstructors().length, 1);
        for (Constructor<?> made : type.getDeclaredConstructors()) {
            Check.due("public constructor", made.getModifiers(), Modifier.PUBLIC);
            Check.due("constructor's parameters", made.getParameterCount(), 0);
        }
        Set<String> seen = new TreeSet<>();
        Set<String> publicNames = new TreeSet<>();
        for (Method method : type.getDeclaredMethods()) {
            if (!isPrivate(method)) {
                seen.add(method.getName() + method.getParameterCount());
                publicNames.add(method.getName());
                Check.due(method + " is public", method.getModifiers(), Modifier.PUBLIC);
                Check.due(method + " answers int", method.getReturnType() == int.class ? 1 : 0, 1);
                for (Class<?> parameter : method.getParameterTypes()) {
                    Check.due(method + " takes int", parameter == int.class ? 1 : 0, 1);
                }
            }
        }
        Check.due("methods are " + seen, seen.equals(FACE) ? 1 : 0, 1);
        for (Method method : type.getDeclaredMethods()) {
            if (isPrivate(method)) {
                Check.due(method + " bears a public name",
                        publicNames.contains(method.getName()) ? 1 : 0, 0);
            }
        }
        for (Field field : type.getDeclaredFields()) {
            Check.due(field + " is private", isPrivate(field) ? 1 : 0, 1);
        }
        Check.due("nested classes", type.getDeclaredClasses().length, 0);
        Check.end();
    }

    private static boolean isPrivate(Member member) {
        return Modifier.isPrivate(member.getModifiers());
    }
}
