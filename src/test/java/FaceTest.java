import java.lang.reflect.Constructor;
import java.lang.reflect.Field;
import java.lang.reflect.Method;
import java.lang.reflect.Modifier;
import java.util.Set;
import java.util.TreeSet;

/** The class has the document's public face, and nothing else that is not private. */
public final class FaceTest {
    private static final Set<String> FACE = Set.of(
            "public static final int SweepChecker.BAD",
            "public static final int SweepChecker.FULL",
            "public static final int SweepChecker.NONE",
            "public SweepChecker()",
            "public int SweepChecker.gate(int,int,int,int)",
            "public int SweepChecker.drop()",
            "public int SweepChecker.wires()",
            "public int SweepChecker.value(int,int)",
            "public boolean SweepChecker.equal(int,int)",
            "public boolean SweepChecker.opposite(int,int)",
            "public int SweepChecker.constant(int)",
            "public boolean SweepChecker.implies(int,int)",
            "public int SweepChecker.count(int)",
            "public int SweepChecker.witness(int)",
            "public int SweepChecker.differ(int,int)",
            "public int SweepChecker.depends(int)",
            "public int SweepChecker.first(int)",
            "public int SweepChecker.groups()",
            "public boolean SweepChecker.symmetric(int,int,int)",
            "public int SweepChecker.follows(int,int)");

    public static void main(String[] args) {
        Checks checks = new Checks();
        Set<String> seen = new TreeSet<>();
        for (Field field : SweepChecker.class.getDeclaredFields()) {
            addUnlessPrivate(seen, field.getModifiers(), field.toString());
        }
        for (Constructor<?> constructor : SweepChecker.class.getDeclaredConstructors()) {
            addUnlessPrivate(seen, constructor.getModifiers(), constructor.toString());
        }
        for (Method method : SweepChecker.class.getDeclaredMethods()) {
            addUnlessPrivate(seen, method.getModifiers(), method.toString());
        }
        for (String member : FACE) {
            checks.same("there is " + member, seen.contains(member), true);
        }
        for (String member : seen) {
            checks.same("the document has " + member, FACE.contains(member), true);
        }
        int modifiers = SweepChecker.class.getModifiers();
        checks.same("public final class", modifiers, Modifier.PUBLIC | Modifier.FINAL);
        checks.done();
    }

    private static void addUnlessPrivate(Set<String> seen, int modifiers, String member) {
        if (!Modifier.isPrivate(modifiers)) {
            seen.add(member);
        }
    }
}
