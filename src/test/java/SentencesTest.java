import java.io.IOException;
import java.nio.file.DirectoryStream;
import java.nio.file.Files;
import java.nio.file.Path;
import java.util.TreeMap;
import java.util.TreeSet;
import java.util.regex.Matcher;
import java.util.regex.Pattern;

/**
 * Each promise is named by tests, with sentences that stand in the document just so; and of 'Terms' and of the promises
 * no word is left that no test quotes.
 */
public final class SentencesTest {
    private static final int PROMISES = 24;
    private static final Pattern NAMED =
            Pattern.compile("Due\\.promise\\((\\d+), ((?:\"(?:[^\"\\\\]|\\\\.)*\"(?:\\s*\\+\\s*)?)+)\\);");
    /** Headings, and the lines that only say which calls are whose. */
    private static final Pattern NO_SENTENCE = Pattern.compile("```(text)?|======== \\d [A-Z ]+(?=\\. )|======== |## Terms"
            + "|Ahead of the calls [^.]*? the interface says: ---- the (other side|device)"
            + "|## Promise \\d+: [^`]*`[^`]*`");
    private static final Path DOCUMENT = Path.of("../shared/DOC.md");

    public static void main(String[] args) throws IOException {
        TreeMap<Integer, TreeSet<String>> named = named();
        for (int promise = 1; promise <= PROMISES; promise++) {
            Due.holds("promise " + promise + " is named", named.containsKey(promise));
        }
        if (Files.exists(DOCUMENT)) {
            String document = Files.readString(DOCUMENT).replaceAll("\\s+", " ");
            standJustSo(named, document);
            leaveNothingOut(named, document);
        }
        Due.close("SentencesTest");
    }

    private static TreeMap<Integer, TreeSet<String>> named() throws IOException {
        TreeMap<Integer, TreeSet<String>> named = new TreeMap<>();
        try (DirectoryStream<Path> files = Files.newDirectoryStream(Path.of("src/test/java"), "*Test.java")) {
            for (Path file : files) {
                Matcher m = NAMED.matcher(Files.readString(file));
                while (m.find()) {
                    String words = m.group(2).replaceAll("\"\\s*\\+\\s*\"", "");
                    named.computeIfAbsent(Integer.parseInt(m.group(1)), key -> new TreeSet<>())
                            .add(words.substring(1, words.length() - 1));
                }
            }
        }
        return named;
    }

    private static void standJustSo(TreeMap<Integer, TreeSet<String>> named, String document) {
        for (int promise : named.keySet()) {
            for (String sentence : named.get(promise)) {
                Due.holds("promise " + promise + " says: " + sentence, document.contains(sentence));
            }
        }
    }

    /** A quote stands for the words of its own promise, and for those of 'Terms', but for no other promise's. */
    private static void leaveNothingOut(TreeMap<Integer, TreeSet<String>> named, String document) {
        int terms = document.indexOf("## Terms");
        int[] starts = new int[PROMISES + 2];
        for (int promise = 1; promise <= PROMISES; promise++) {
            starts[promise] = document.indexOf("## Promise " + promise + ": ");
        }
        starts[PROMISES + 1] = document.indexOf("## Not promised");
        boolean[] quoted = new boolean[document.length()];
        for (int promise : named.keySet()) {
            for (String sentence : named.get(promise)) {
                mark(quoted, document, sentence, terms, starts[1]);
                mark(quoted, document, sentence, starts[promise], starts[promise + 1]);
            }
        }
        Matcher heading = NO_SENTENCE.matcher(document);
        while (heading.find()) {
            for (int i = heading.start(); i < heading.end(); i++) {
                quoted[i] = true;
            }
        }
        Matcher word = Pattern.compile("\\S+").matcher(document).region(terms, starts[PROMISES + 1]);
        while (word.find()) {
            boolean isQuoted = true;
            for (int i = word.start(); i < word.end(); i++) {
                isQuoted &= quoted[i] || !Character.isLetterOrDigit(document.charAt(i));
            }
            String around = document.substring(Math.max(0, word.start() - 40), word.end());
            Due.holds("a test quotes the last word of: .." + around, isQuoted);
        }
    }

    private static void mark(boolean[] quoted, String document, String sentence, int from, int to) {
        for (int at = document.indexOf(sentence, from); at >= 0 && at < to; at = document.indexOf(sentence, at + 1)) {
            for (int i = at; i < at + sentence.length(); i++) {
                quoted[i] = true;
            }
        }
    }
}
