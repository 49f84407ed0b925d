import java.lang.reflect.Field;
import java.lang.reflect.Member;
import java.lang.reflect.Method;
import java.lang.reflect.Modifier;
import java.nio.file.Files;
import java.nio.file.Path;
import java.util.ArrayList;
import java.util.List;
import java.util.regex.Matcher;
import java.util.regex.Pattern;

/** The rules of LANGUAGE.md that can be seen from the class and its source; rule 1, the face, is FaceTest's. */
public final class LanguageTest {
    private static final String[] FORBIDDEN = {"throw", "try", "catch", "finally", "synchronized", "assert", "import",
        "package", "volatile", "transient", "native", "double", "float", "record", "protected", "var", "System",
        "Object", "hashCode", "toString", "Thread"};

    public static void main(String[] args) throws Exception {
        classes();
        source(Files.readString(Path.of("src/main/java/FlashTrust.java")));
        Due.close("LanguageTest");
    }

    private static void classes() {
        List<Class<?>> all = new ArrayList<>(List.of(FlashTrust.class.getDeclaredClasses()));
        Due.holds("at most twelve classes", all.size() < 12);
        for (Class<?> c : all) {
            Due.holds(c + " is static and not public", Modifier.isStatic(c.getModifiers())
                    && !Modifier.isPublic(c.getModifiers()));
            Due.holds(c + " has no class inside", c.getDeclaredClasses().length == 0);
        }
        all.add(FlashTrust.class);
        for (Class<?> c : all) {
            int fields = 0;
            for (Field f : c.getDeclaredFields()) {
                boolean isStatic = Modifier.isStatic(f.getModifiers());
                Due.holds(f + " is final", !isStatic || Modifier.isFinal(f.getModifiers()));
                fields += isStatic ? 0 : 1;
            }
            Due.holds(c + " has at most twenty fields", fields <= 20);
            for (Method m : c.getDeclaredMethods()) {
                Due.holds(m + " takes at most seven", m.getParameterCount() <= 7);
                Due.holds(m + " is written by hand", !isMadeByCompiler(m));
            }
        }
    }

    private static boolean isMadeByCompiler(Member member) {
        return member.isSynthetic();
    }

    /** Rule 4, and rule 3's types: what has a great letter is a constant, a class inside, or Math and Integer. */
    private static void library(String code) {
        List<String> known = new ArrayList<>(List.of("Math", "Integer"));
        for (Class<?> c : FlashTrust.class.getDeclaredClasses()) {
            known.add(c.getSimpleName());
        }
        Matcher m = Pattern.compile("\\b([A-Z]\\w*)\\.(\\w+)").matcher(code);
        while (m.find()) {
            Due.holds("of the list: " + m.group(), known.contains(m.group(1)) || m.group(2).equals("clone"));
            Due.holds("not exact: " + m.group(), !m.group(2).endsWith("Exact"));
        }
    }

    /** Rule 9: each loop counts by a number of its own, or up by pages, against a bound. */
    private static void loops(String code) {
        Pattern counted = Pattern.compile("for \\(int (\\w+) = [^;]+; [^;]*\\b\\1 (<|<=|>=) [^;]+; "
                + "\\1(\\+\\+|--| \\+= PAGE_BYTES)\\) \\{");
        for (String line : code.split("\n")) {
            if (line.contains("for (")) {
                Due.holds("a loop with a bound: " + line.strip(), counted.matcher(line).find());
            }
        }
    }

    /** Rule 8: there is none, as far as a method names itself. */
    private static void recursion(String code) {
        Matcher method = Pattern.compile("\n( {4,8})(?:[a-z]+ )*[a-zA-Z]+ ([a-z]\\w*)\\([^)]*\\) \\{\n"
                + "(?s:(.*?))\n\\1\\}").matcher(code);
        int methods = 0;
        while (method.find()) {
            methods++;
            boolean callsItself = method.group(3).matches("(?s).*(?<![\\w.])" + method.group(2) + "\\(.*");
            Due.holds(method.group(2) + " does not call itself", !callsItself);
        }
        Due.holds("methods were seen", methods > 80);
    }

    private static void source(String text) {
        String code = text.replaceAll("(?s)/\\*.*?\\*/", " ").replaceAll("//[^\n]*", " ");
        for (String word : FORBIDDEN) {
            Due.holds("no " + word, !code.matches("(?s).*\\b" + word + "\\b.*"));
        }
        Due.holds("no lambda", !code.contains("->"));
        Due.holds("no method reference", !code.contains("::"));
        Due.holds("no texts", !code.contains("\""));
        Due.holds("no while without a counter", !code.contains("while"));
        Due.holds("characters 0 to 255 alone", text.chars().allMatch(c -> c < 256));
        library(code);
        loops(code);
        recursion(code);
        int start = -1;
        String[] lines = text.split("\n");
        for (int i = 0; i < lines.length; i++) {
            if (lines[i].matches(" {4,8}[a-z].*\\) \\{")) {
                start = i;
            } else if (start >= 0 && lines[i].matches(" {4,8}\\}")) {
                Due.holds("line " + (start + 1) + " begins at most sixty lines", i - start < 60);
                start = -1;
            }
        }
    }
}
