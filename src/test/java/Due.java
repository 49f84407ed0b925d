/** Counts the answers of a test that are not the ones that are due. */
final class Due {
    private static int asked = 0;
    private static int wrong = 0;
    private static String sentence = "";

    private Due() { }

    /** Names the promise, and the document's sentence, that the answers from here on are held against. */
    static void promise(int number, String words) {
        sentence = "promise " + number + " (" + words + "): ";
    }

    static void is(String what, long got, long want) {
        asked++;
        if (got != want) {
            wrong++;
            System.out.println(sentence + what + " answered " + got + ", due is " + want);
        }
    }

    static void holds(String what, boolean fact) {
        is(what, fact ? 1 : 0, 1);
    }

    static void close(String name) {
        System.out.println(name + ": " + asked + " answers looked at, " + wrong + " wrong");
        if (wrong != 0 || asked == 0) {
            System.exit(1);
        }
    }
}
