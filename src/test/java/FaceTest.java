import java.lang.reflect.Constructor;
import java.lang.reflect.Field;
import java.lang.reflect.Method;
import java.lang.reflect.Modifier;
import java.util.TreeSet;

/** The face of the class is the document's, and nothing beside it can be seen. */
public final class FaceTest {
    private static final String[] FACE = {
        "int pass(int)", "int holder(int,int)", "int share(int,int,int,int)", "int price(int,int)",
        "int sale(int,int)", "int of(int,int)", "int held(int,int,int)", "int feed(int,int)",
        "int charter(int,int)", "int force(int,int,int,int)", "int why(int,int,int)",
        "int votes(int,int,int)", "int carry(int,int,int)", "int ruler(int,int)", "int step(int,int)",
        "int all(int,int,int)", "int proof(int,int,int)", "long worth(int,int,int)", "int hollow(int)",
        "int pivot(int,int)", "long buy(int,int,int)", "int sold(int)", "long free(int)",
        "int may(int,int,int,int)", "int motion(int,int)", "int alike(int,int,int)", "int found(int)",
        "int ring(int)", "long breaks()", "int act(int,int,int)", "int trace(int)", "int taken(int,int)",
        "int count(int)", "int tape(int,int,int)", "int item(int,int,long)", "long read(int,int)",
        "int shift(int,int,int,int,int)",
    };

    private FaceTest() {
    }

    public static void main(String[] args) {
        Check check = new Check("face");
        check.due("final", Modifier.isFinal(WhoRules.class.getModifiers()) ? 1 : 0, 1);
        check.due("public", Modifier.isPublic(WhoRules.class.getModifiers()) ? 1 : 0, 1);

        TreeSet<String> want = new TreeSet<>(java.util.List.of(FACE));
        TreeSet<String> got = new TreeSet<>();
        for (Method m : WhoRules.class.getDeclaredMethods()) {
            if (Modifier.isPrivate(m.getModifiers())) {
                continue;
            }
            StringBuilder s = new StringBuilder(m.getReturnType() + " " + m.getName() + "(");
            for (Class<?> p : m.getParameterTypes()) {
                s.append(s.charAt(s.length() - 1) == '(' ? "" : ",").append(p);
            }
            got.add(s.append(")").toString());
        }
        check.text("methods", got.toString(), want.toString());

        TreeSet<String> fields = new TreeSet<>();
        for (Field f : WhoRules.class.getDeclaredFields()) {
            if (!Modifier.isPrivate(f.getModifiers())) {
                fields.add(Modifier.toString(f.getModifiers()) + " " + f.getType() + " " + f.getName());
            }
        }
        check.text("constants", fields.toString(), "[public static final int BAD, public static final int FULL, "
                + "public static final int NONE, public static final int STATE, public static final long NO]");
        for (Constructor<?> c : WhoRules.class.getDeclaredConstructors()) {
            check.due("constructor's parameters", c.getParameterCount(), 0);
        }
        check.due("NONE", WhoRules.NONE, -1);
        check.due("BAD", WhoRules.BAD, -2);
        check.due("STATE", WhoRules.STATE, -3);
        check.due("FULL", WhoRules.FULL, -4);
        check.due("NO", WhoRules.NO, Long.MIN_VALUE);

        privateNamesDiffer(check);
        check.end();
    }

    /** LANGUAGE.md 1: no private method bears the name of a public one. */
    private static void privateNamesDiffer(Check check) {
        TreeSet<String> names = new TreeSet<>();
        for (Method m : WhoRules.class.getDeclaredMethods()) {
            if (Modifier.isPublic(m.getModifiers())) {
                names.add(m.getName());
            }
        }
        TreeSet<String> twice = new TreeSet<>();
        for (Class<?> c : classes()) {
            for (Method m : c.getDeclaredMethods()) {
                if (Modifier.isPrivate(m.getModifiers()) && names.contains(m.getName())) {
                    twice.add(c.getName() + "." + m.getName());
                }
            }
        }
        check.text("names", twice.toString(), "[]");
        check.due("classes are some twelve", classes().size() <= 14 ? 1 : 0, 1);
        for (Class<?> c : classes()) {
            int fields = 0;
            for (Field f : c.getDeclaredFields()) {
                fields += Modifier.isStatic(f.getModifiers()) ? 0 : 1;
            }
            check.due("fields of " + c.getName() + " are some twenty", fields <= 22 ? 1 : 0, 1);
        }
    }

    private static java.util.List<Class<?>> classes() {
        java.util.List<Class<?>> all = new java.util.ArrayList<>(java.util.List.of(WhoRules.class.getDeclaredClasses()));
        all.add(WhoRules.class);
        return all;
    }
}
