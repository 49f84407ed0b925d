import java.io.IOException;
import java.nio.file.DirectoryStream;
import java.nio.file.Files;
import java.nio.file.Path;
import java.util.TreeMap;
import java.util.TreeSet;
import java.util.regex.Matcher;
import java.util.regex.Pattern;

/** Each promise is named by a test, with sentences that stand in the document just so. */
public final class SentencesTest {
    private static final Pattern NAMED =
            Pattern.compile("Due\\.promise\\((\\d+), ((?:\"(?:[^\"\\\\]|\\\\.)*\"(?:\\s*\\+\\s*)?)+)\\);");
    private static final Path DOCUMENT = Path.of("../shared/DOC.md");

    public static void main(String[] args) throws IOException {
        String document = Files.exists(DOCUMENT) ? Files.readString(DOCUMENT).replaceAll("\\s+", " ") : "";
        TreeMap<Integer, TreeSet<String>> named = named();
        for (int promise = 1; promise <= 24; promise++) {
            Due.holds("promise " + promise + " is named", named.containsKey(promise));
        }
        for (int promise : named.keySet()) {
            for (String sentence : named.get(promise)) {
                Due.holds("promise " + promise + " says: " + sentence, document.isEmpty() || document.contains(sentence));
            }
        }
        Due.close("SentencesTest");
    }

    private static TreeMap<Integer, TreeSet<String>> named() throws IOException {
        TreeMap<Integer, TreeSet<String>> named = new TreeMap<>();
        try (DirectoryStream<Path> files = Files.newDirectoryStream(Path.of("src/test/java"), "*Test.java")) {
            for (Path file : files) {
                Matcher m = NAMED.matcher(Files.readString(file));
                while (m.find()) {
                    String words = m.group(2).replaceAll("\"\\s*\\+\\s*\"", "");
                    named.computeIfAbsent(Integer.parseInt(m.group(1)), key -> new TreeSet<>())
                            .add(words.substring(1, words.length() - 1));
                }
            }
        }
        return named;
    }
}
