import java.io.IOException;
import java.lang.reflect.Field;
import java.lang.reflect.Method;
import java.lang.reflect.Modifier;
import java.nio.file.Files;
import java.nio.file.Path;
import java.util.Arrays;
import java.util.List;
import java.util.Set;
import java.util.TreeSet;

/** The public face of the document, and rules of LANGUAGE.md that show in the class or its text. */
public final class FaceTest {
    private static final Path TEXT = Path.of("src/main/java/LodgeProofs.java");

    private static final Set<String> FACE = new TreeSet<>(List.of(
            "boolean take(int, boolean)", "int lemma()", "int proof(int)",
            "int cite(int, int, int, int)", "int patch(int, int, int, int)",
            "boolean withdraw(int, int, int)", "int strike(int, int)", "int told(int, int)",
            "int step(int, int, int, int)", "int about(int, int, int)", "int count(int)",
            "int best(int)", "int without(int)", "boolean needs(int, int)", "int advise()",
            "double mean()", "long digest()"));

    // Rules 3, 5, 6, 8 and 10: none of these is needed, and each is out of bounds or hard to judge.
    private static final List<String> UNUSED = List.of(
            "->", "::", "catch", "try ", "finally", "synchronized", "assert", "static {",
            "ArithmeticException", "NullPointerException", "ArrayIndexOutOfBoundsException",
            "Random", "System.", "Thread", "package ", "native");

    private static int wrong = 0;

    public static void main(String[] args) throws IOException {
        classItself();
        methods();
        fields();
        text();
        if (wrong > 0) {
            System.exit(1);
        }
    }

    private static void due(String what, boolean holds) {
        if (!holds) {
            wrong++;
            System.out.println("FaceTest: " + what);
        }
    }

    private static void classItself() {
        int modifiers = LodgeProofs.class.getModifiers();
        due("the class is public and final",
                Modifier.isPublic(modifiers) && Modifier.isFinal(modifiers));
        due("one constructor, public and without parameters",
                LodgeProofs.class.getDeclaredConstructors().length == 1
                && LodgeProofs.class.getConstructors().length == 1
                && LodgeProofs.class.getConstructors()[0].getParameterCount() == 0);
    }

    private static void methods() {
        Set<String> face = new TreeSet<>();
        Set<String> names = new TreeSet<>();
        for (Method method : LodgeProofs.class.getDeclaredMethods()) {
            if (Modifier.isPublic(method.getModifiers())) {
                String types = Arrays.toString(method.getParameterTypes());
                face.add(method.getReturnType() + " " + method.getName()
                        + "(" + types.substring(1, types.length() - 1) + ")");
                names.add(method.getName());
            }
        }
        due("the face is " + face, face.equals(FACE));
        for (Method method : LodgeProofs.class.getDeclaredMethods()) {
            boolean isPrivate = Modifier.isPrivate(method.getModifiers());
            due(method + " is public or private",
                    isPrivate || Modifier.isPublic(method.getModifiers()));
            due(method + " bears a name of the face", !isPrivate || !names.contains(method.getName()));
            due(method + " takes at most seven parameters", method.getParameterCount() <= 7);
        }
    }

    private static void fields() {
        int state = 0;
        for (Field field : LodgeProofs.class.getDeclaredFields()) {
            int modifiers = field.getModifiers();
            due(field + " is private", Modifier.isPrivate(modifiers));
            due(field + " is final, as it is static",
                    !Modifier.isStatic(modifiers) || Modifier.isFinal(modifiers));
            state += Modifier.isStatic(modifiers) ? 0 : 1;
        }
        due("there are at most twenty fields", state <= 20);
    }

    private static void text() throws IOException {
        String text = Files.readString(TEXT);
        for (String unused : UNUSED) {
            due("the text has " + unused, !text.contains(unused));
        }
        due("the text has signs beyond 127", text.chars().allMatch(sign -> sign < 128));
        due("the document begins: Proofs of a lodge.", text.contains(" * Proofs of a lodge.\n"));
    }
}
