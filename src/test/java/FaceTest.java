import java.lang.reflect.Constructor;
import java.lang.reflect.Field;
import java.lang.reflect.Method;
import java.lang.reflect.Modifier;
import java.util.Set;
import java.util.TreeSet;

/** The public face: every member of the document with its exact type, and no other visible one. */
public final class FaceTest {
    private static final Set<String> METHODS = Set.of(
            "take(int,int)", "give(int,int)", "drop(int)", "states()", "stuck()", "stuckAt(int,int)",
            "canFinish()", "reached(int,int,int,int)", "ways()", "rings()", "ringsMet()", "statesMet()",
            "soonest()");

    public static void main(String[] args) {
        Check check = new Check();
        check.dueTrue("the class is public", Modifier.isPublic(LockOrders.class.getModifiers()));
        check.dueTrue("the class is final", Modifier.isFinal(LockOrders.class.getModifiers()));
        check.due("BAD_ARG", LockOrders.BAD_ARG, -1);
        check.due("FULL", LockOrders.FULL, -2);
        check.due("NONE", LockOrders.NONE, -4);
        fields(check);
        constructors(check);
        methods(check);
        check.end();
    }

    private static void fields(Check check) {
        Set<String> visible = new TreeSet<>();
        for (Field f : LockOrders.class.getDeclaredFields()) {
            int m = f.getModifiers();
            if (!Modifier.isPrivate(m)) {
                visible.add(f.getName());
                check.dueTrue(f + " is a public constant int", Modifier.isPublic(m) && Modifier.isStatic(m)
                        && Modifier.isFinal(m) && f.getType() == int.class);
            }
        }
        check.dueTrue("visible fields " + visible, visible.equals(Set.of("BAD_ARG", "FULL", "NONE")));
    }

    private static void constructors(Check check) {
        Constructor<?>[] all = LockOrders.class.getDeclaredConstructors();
        check.due("number of constructors", all.length, 1);
        check.dueTrue("the constructor is public", Modifier.isPublic(all[0].getModifiers()));
        check.due("its parameters", all[0].getParameterCount(), 0);
    }

    private static void methods(Check check) {
        Set<String> visible = new TreeSet<>();
        Set<String> publicNames = new TreeSet<>();
        for (String method : METHODS) {
            publicNames.add(method.substring(0, method.indexOf('(')));
        }
        for (Method m : LockOrders.class.getDeclaredMethods()) {
            if (Modifier.isPrivate(m.getModifiers())) {
                check.dueTrue(m + " bears no public name", !publicNames.contains(m.getName()));
            } else {
                visible.add(signature(m));
                check.dueTrue(m + " is public, answers an int and is no static method",
                        Modifier.isPublic(m.getModifiers()) && m.getReturnType() == int.class
                                && !Modifier.isStatic(m.getModifiers()));
            }
        }
        check.dueTrue("visible methods " + visible, visible.equals(METHODS));
    }

    private static String signature(Method m) {
        StringBuilder text = new StringBuilder(m.getName()).append('(');
        for (Class<?> type : m.getParameterTypes()) {
            text.append(text.charAt(text.length() - 1) == '(' ? "" : ",").append(type.getName());
        }
        return text.append(')').toString();
    }
}
