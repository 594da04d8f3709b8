import java.lang.reflect.Constructor;
import java.lang.reflect.Field;
import java.lang.reflect.Member;
import java.lang.reflect.Method;
import java.lang.reflect.Modifier;
import java.util.Set;
import java.util.TreeSet;

// The public face: the members that the document names, and no other that is not private.
public final class FaceTest {
    private static final Set<String> FACE = Set.of(
        "public SaveUnder(int)",
        "public int SaveUnder.show(int,int)",
        "public int SaveUnder.hide()",
        "public int SaveUnder.peek(int)");

    private static void addIfSeen(Set<String> seen, Member member, String told) {
        if (!Modifier.isPrivate(member.getModifiers())) {
            seen.add(told);
        }
    }

    private static void members() {
        Set<String> seen = new TreeSet<>();
        for (Constructor<?> constructor : SaveUnder.class.getDeclaredConstructors()) {
            addIfSeen(seen, constructor, constructor.toString());
        }
        for (Method method : SaveUnder.class.getDeclaredMethods()) {
            addIfSeen(seen, method, method.toString());
        }
        if (!seen.equals(FACE)) {
            Answers.fail("the face is " + seen + ", due is " + new TreeSet<>(FACE));
        }
    }

    private static void constants() {
        Set<String> seen = new TreeSet<>();
        for (Field field : SaveUnder.class.getDeclaredFields()) {
            addIfSeen(seen, field, field.toString());
        }
        if (!seen.isEmpty()) {
            Answers.fail("the fields that are not private are " + seen + ", none is due");
        }
    }

    private static void theClassItself() {
        Class<SaveUnder> program = SaveUnder.class;
        if (program.getModifiers() != (Modifier.PUBLIC | Modifier.FINAL)) {
            Answers.fail("the class is not public and final alone");
        }
        if (program.getSuperclass() != Object.class || program.getInterfaces().length != 0) {
            Answers.fail("the class extends or implements something");
        }
        if (program.getDeclaredClasses().length != 0) {
            Answers.fail("the class has a nested class");
        }
    }

    public static void main(String[] args) {
        Answers.sentence("public final class SaveUnder", FaceTest::theClassItself);
        Answers.sentence("SaveUnder(int), show(int, int), hide() and peek(int) are the face", FaceTest::members);
        Answers.sentence("The class has no public constants.", FaceTest::constants);
        Answers.end();
    }
}
