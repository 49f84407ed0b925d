import java.lang.reflect.Field;
import java.lang.reflect.Member;
import java.lang.reflect.Method;
import java.lang.reflect.Modifier;
import java.nio.file.Files;
import java.nio.file.Path;
import java.util.ArrayList;
import java.util.List;

/** The rules of LANGUAGE.md that can be seen from the class and its source; rule 1, the face, is FaceTest's. */
public final class LanguageTest {
    private static final String[] FORBIDDEN = {"throw", "try", "catch", "finally", "synchronized", "assert", "import",
        "package", "volatile", "transient", "native", "double", "float", "record", "protected", "var", "System",
        "Object", "hashCode", "toString", "Thread"};

    public static void main(String[] args) throws Exception {
        classes();
        source(Files.readString(Path.of("src/main/java/FlashTrust.java")));
        Due.close("LanguageTest");
    }

    private static void classes() {
        List<Class<?>> all = new ArrayList<>(List.of(FlashTrust.class.getDeclaredClasses()));
        Due.holds("at most twelve classes", all.size() < 12);
        for (Class<?> c : all) {
            Due.holds(c + " is static and not public", Modifier.isStatic(c.getModifiers())
                    && !Modifier.isPublic(c.getModifiers()));
            Due.holds(c + " has no class inside", c.getDeclaredClasses().length == 0);
        }
        all.add(FlashTrust.class);
        for (Class<?> c : all) {
            int fields = 0;
            for (Field f : c.getDeclaredFields()) {
                boolean isStatic = Modifier.isStatic(f.getModifiers());
                Due.holds(f + " is final", !isStatic || Modifier.isFinal(f.getModifiers()));
                fields += isStatic ? 0 : 1;
            }
            Due.holds(c + " has at most twenty fields", fields <= 20);
            for (Method m : c.getDeclaredMethods()) {
                Due.holds(m + " takes at most seven", m.getParameterCount() <= 7);
                Due.holds(m + " is written by hand", !isMadeByCompiler(m));
            }
        }
    }

    private static boolean isMadeByCompiler(Member member) {
        return member.isSynthetic();
    }

    private static void source(String text) {
        String code = text.replaceAll("(?s)/\\*.*?\\*/", " ").replaceAll("//[^\n]*", " ");
        for (String word : FORBIDDEN) {
            Due.holds("no " + word, !code.matches("(?s).*\\b" + word + "\\b.*"));
        }
        Due.holds("no lambda", !code.contains("->"));
        Due.holds("no method reference", !code.contains("::"));
        Due.holds("no texts", !code.contains("\""));
        Due.holds("no while without a counter", !code.contains("while"));
        Due.holds("characters 0 to 255 alone", text.chars().allMatch(c -> c < 256));
        int start = -1;
        String[] lines = text.split("\n");
        for (int i = 0; i < lines.length; i++) {
            if (lines[i].matches(" {4,8}[a-z].*\\) \\{")) {
                start = i;
            } else if (start >= 0 && lines[i].matches(" {4,8}\\}")) {
                Due.holds("line " + (start + 1) + " begins at most sixty lines", i - start < 60);
                start = -1;
            }
        }
    }
}
