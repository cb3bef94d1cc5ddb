import java.lang.reflect.Constructor;
import java.lang.reflect.Field;
import java.lang.reflect.Method;
import java.lang.reflect.Modifier;
import java.util.Arrays;
import java.util.TreeSet;

/** The public face is the document's: nothing is missing, and nothing else is to be seen. */
public final class FaceTest {
    private static final String[] FACE = {
        "row/3", "set/3", "copy/5", "drop/1", "feed/1", "estuary/0", "fault/0", "hours/1", "mend/1", "loose/1",
        "pull/2", "clear/1", "undo/0", "tug/2", "pier/2", "later/2", "arrives/0", "parts/1", "crew/2", "cleared/2",
        "least/2", "share/2", "fits/5", "chance/3", "drawn/3", "image/1", "restore/1", "kind/1", "as/2", "ask/2",
        "trace/1", "count/1", "status/0"};

    public static void main(String[] args) {
        Check check = new Check("the face");
        Class<?> face = TugLines.class;
        check.that("the class is public and final",
            Modifier.isPublic(face.getModifiers()) && Modifier.isFinal(face.getModifiers()));
        TreeSet<String> seen = new TreeSet<>();
        TreeSet<String> open = new TreeSet<>();
        TreeSet<String> hidden = new TreeSet<>();
        for (Method m : face.getDeclaredMethods()) {
            if (Modifier.isPrivate(m.getModifiers())) {
                hidden.add(m.getName());
                continue;
            }
            open.add(m.getName());
            boolean plain = Modifier.isPublic(m.getModifiers()) && !Modifier.isStatic(m.getModifiers())
                && m.getReturnType() == int.class
                && Arrays.stream(m.getParameterTypes()).allMatch(p -> p == int.class);
            seen.add(m.getName() + "/" + m.getParameterCount() + (plain ? "" : " (not as told)"));
        }
        check.that("its methods are " + seen, seen.equals(new TreeSet<>(Arrays.asList(FACE))));
        hidden.retainAll(open);
        check.that("private methods with the name of a public one: " + hidden, hidden.isEmpty());
        for (Field f : face.getDeclaredFields()) {
            boolean constant = Arrays.asList("NONE", "BAD", "STATE", "FULL").contains(f.getName());
            check.that("the field " + f.getName(), constant == !Modifier.isPrivate(f.getModifiers()));
        }
        Constructor<?>[] made = face.getDeclaredConstructors();
        check.that("one constructor, public, without parameters",
            made.length == 1 && Modifier.isPublic(made[0].getModifiers()) && made[0].getParameterCount() == 0);
        keepsTheRules(check, face, open);
        for (Class<?> inside : face.getDeclaredClasses()) {
            int mods = inside.getModifiers();
            check.that(inside + " is static, and not open",
                Modifier.isStatic(mods) && !Modifier.isPublic(mods) && !Modifier.isProtected(mods));
            keepsTheRules(check, inside, open);
        }
        check.due("NONE", TugLines.NONE, -1000000);
        check.due("BAD", TugLines.BAD, -1000001);
        check.due("STATE", TugLines.STATE, -1000002);
        check.due("FULL", TugLines.FULL, -1000003);
        check.end();
    }

    /** LANGUAGE.md, rules 1, 5 and 11: names of private methods, static fields, how many fields. */
    private static void keepsTheRules(Check check, Class<?> one, TreeSet<String> open) {
        int own = 0;
        for (Field f : one.getDeclaredFields()) {
            boolean shared = Modifier.isStatic(f.getModifiers());
            own += shared ? 0 : 1;
            boolean plain = f.getType() == int.class || f.getType() == int[].class;
            check.that(f + " is final, and of ints", !shared || Modifier.isFinal(f.getModifiers()) && plain);
        }
        check.that(one + " has " + own + " fields, some twenty at most", own <= 20);
        for (Method m : one.getDeclaredMethods()) {
            boolean hidden = Modifier.isPrivate(m.getModifiers());
            check.that(m + " does not bear the name of a public one", !hidden || !open.contains(m.getName()));
        }
    }
}
