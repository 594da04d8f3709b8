import java.lang.reflect.Constructor;
import java.lang.reflect.Field;
import java.lang.reflect.Member;
import java.lang.reflect.Method;
import java.lang.reflect.Modifier;
import java.util.Set;
import java.util.TreeSet;

// The public face: the members that the document names, and no other that is not private.
public final class FaceTest {
    private static final Set<String> FACE = Set.of(
        "public SaveUnder(int)",
        "public int SaveUnder.show(int,int)",
        "public int SaveUnder.hide()",
        "public int SaveUnder.peek(int)");

    private static void addIfSeen(Set<String> seen, Member member, String told) {
        if (!Modifier.isPrivate(member.getModifiers())) {
            seen.add(told);
        }
    }

    public static void main(String[] args) {
        Class<SaveUnder> program = SaveUnder.class;
        Set<String> seen = new TreeSet<>();
        for (Constructor<?> constructor : program.getDeclaredConstructors()) {
            addIfSeen(seen, constructor, constructor.toString());
        }
        for (Method method : program.getDeclaredMethods()) {
            addIfSeen(seen, method, method.toString());
        }
        for (Field field : program.getDeclaredFields()) {
            addIfSeen(seen, field, field.toString());
        }
        if (!seen.equals(FACE)) {
            Answers.fail("the face is " + seen + ", due is " + new TreeSet<>(FACE));
        }
        if (program.getModifiers() != (Modifier.PUBLIC | Modifier.FINAL)) {
            Answers.fail("the class is not public and final alone");
        }
        if (program.getSuperclass() != Object.class || program.getInterfaces().length != 0) {
            Answers.fail("the class extends or implements something");
        }
        if (program.getDeclaredClasses().length != 0) {
            Answers.fail("the class has a nested class");
        }
        Answers.end();
    }
}
