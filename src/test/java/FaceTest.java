import java.io.IOException;
import java.lang.reflect.Constructor;
import java.lang.reflect.Executable;
import java.lang.reflect.Field;
import java.lang.reflect.Method;
import java.lang.reflect.Modifier;
import java.nio.file.Files;
import java.nio.file.Path;
import java.util.Set;
import java.util.StringJoiner;
import java.util.TreeSet;

/** 'The public face': every constant, the constructor and every method, with just these types, and no other member. */
public final class FaceTest {
    private static final Path DOCUMENT = Path.of("../shared/DOC.md");
    private static final String[] FACE = {"FlashTrust(int n)", "int feed(int a, int b, int c, int d, int e)",
        "int end(int n)", "int byteOf(int i)", "int plan(int role, int keys, int threshold)",
        "int image(int version, int length, int seed)", "int clear()", "int draft(int role, int version, int end)",
        "int sign(int key)", "int show()", "int piece(int version, int k)", "int spoil(int i, int mask)",
        "int begin(int clock)", "int answer()", "int refuse()", "int awaits(int what)", "int stop()",
        "int power(int n, int mask)", "int boot()", "int test(boolean passed)", "int told(int what)",
        "int trusted(int role, int what, int k)", "int flash(int sector, int i)", "long digest()"};
    private static final String CONSTANTS = "BAD = -1, NONE = -2, DOWN = -3, STATE = -4, FULL = -5";

    public static void main(String[] args) throws IOException, IllegalAccessException {
        documentSaysSo();
        classIsPublicAndFinal();
        constants();
        callsAreThoseOfTheFace();
        Due.close("FaceTest");
    }

    /** So that the list above is the document's, and not another. */
    private static void documentSaysSo() throws IOException {
        if (!Files.exists(DOCUMENT)) {
            return;
        }
        String document = Files.readString(DOCUMENT);
        String face = document.substring(document.indexOf("```java"), document.indexOf("## Terms"));
        Set<String> said = new TreeSet<>();
        for (String line : face.split("\n")) {
            if (line.matches("    public .*\\);")) {
                said.add(line.replace("    public ", "").replace(";", ""));
            }
        }
        Due.holds("the document's face: " + said, said.equals(Set.of(FACE)));
        Due.holds("its constants", face.contains("    public static final int " + CONSTANTS + ";\n"));
    }

    private static void classIsPublicAndFinal() {
        int modifiers = FlashTrust.class.getModifiers();
        Due.holds("public", Modifier.isPublic(modifiers));
        Due.holds("final", Modifier.isFinal(modifiers));
        Due.holds("of no class but Object", FlashTrust.class.getSuperclass() == Object.class);
        Due.is("interfaces", FlashTrust.class.getInterfaces().length, 0);
        Due.is("public classes inside", FlashTrust.class.getClasses().length, 0);
    }

    private static void constants() throws IllegalAccessException {
        StringJoiner found = new StringJoiner(", ");
        for (Field field : FlashTrust.class.getDeclaredFields()) {
            int modifiers = field.getModifiers();
            if (!Modifier.isPrivate(modifiers)) {
                Due.is(field + ", its modifiers", modifiers, Modifier.PUBLIC | Modifier.STATIC | Modifier.FINAL);
                Due.holds(field + " is an int", field.getType() == int.class);
                found.add(field.getName() + " = " + field.getInt(null));
            }
        }
        Due.holds("the constants: " + found, found.toString().equals(CONSTANTS));
        // A case wants numbers that javac knows.
        switch (FlashTrust.BAD) {
            case FlashTrust.NONE, FlashTrust.DOWN, FlashTrust.STATE, FlashTrust.FULL -> Due.holds("BAD is another", false);
            default -> Due.holds("BAD is another", true);
        }
    }

    private static void callsAreThoseOfTheFace() {
        Set<String> wanted = new TreeSet<>();
        Set<String> names = new TreeSet<>();
        for (String call : FACE) {
            wanted.add(call.replaceAll(" \\w+([,)])", "$1"));
            names.add(call.replaceAll("\\(.*", "").replaceAll(".* ", ""));
        }
        Set<String> found = new TreeSet<>();
        for (Constructor<?> made : FlashTrust.class.getDeclaredConstructors()) {
            Due.is(made + ", its modifiers", made.getModifiers(), Modifier.PUBLIC);
            found.add("FlashTrust" + types(made));
        }
        for (Method method : FlashTrust.class.getDeclaredMethods()) {
            if (Modifier.isPrivate(method.getModifiers())) {
                Due.holds(method + " has a name of its own", !names.contains(method.getName()));
            } else {
                Due.is(method + ", its modifiers", method.getModifiers(), Modifier.PUBLIC);
                found.add(method.getReturnType() + " " + method.getName() + types(method));
            }
        }
        Due.holds("the calls: " + found, found.equals(wanted));
    }

    private static String types(Executable call) {
        StringJoiner types = new StringJoiner(", ", "(", ")");
        for (Class<?> type : call.getParameterTypes()) {
            types.add(type.getName());
        }
        Due.is(call + " throws nothing", call.getExceptionTypes().length, 0);
        return types.toString();
    }
}
