/**
 * Promises 9, 14 and 22: BODIES that are others, but have the same DIGEST. Three pairs of them were looked for among
 * some 2^34 BODIES each, and stand here as found: without such, error 3 of LIST and of IMAGES can't come.
 */
public final class LikeDigestTest {
    private static final int NONE = FlashTrust.NONE;

    public static void main(String[] args) {
        timeIsKeptByItsBody();
        listOfAnotherVersion();
        trustedListOfAnotherVersion();
        imagesOfAnotherVersion();
        trustedImagesOfAnotherVersion();
        Due.close("LikeDigestTest");
    }

    private static Bytes list(int version, int end) {
        return Bytes.told(version, end, 1, 0);
    }

    /** A key has SIGNED what has the DIGEST that it signed; but KEPT is what is another BODY. */
    private static void timeIsKeptByItsBody() {
        Due.promise(14, "KEPT, if its BODY is another one than the TRUSTED one's.");
        Bytes first = Bytes.told(37, 1863, 2, list(2, 124602).digest());
        Bytes second = Bytes.told(41, 554, 2, list(2, 69927).digest());
        Due.is("the DIGEST is the same", second.digest(), first.digest());
        Line line = new Line(40);
        Device x = line.x;
        Bytes.document(1, second, 3).feedTo(x);
        line.toTime(10);
        Due.is("not SIGNED yet", x.answer(), -12);
        x.draft(2, 2, 124602);
        line.toTime(10);
        Due.is("the first", line.sendTime(37, 1863), 3);
        x.stop();
        Bytes.document(1, second, 3).feedTo(x);
        line.toTime(10);
        Due.is("the second", x.answer(), 3);
        int[] wanted = {41, 554, 8, 2};
        for (int what = 0; what < wanted.length; what++) {
            Due.is("it is KEPT, " + what, x.trusted(1, what, 0), wanted[what]);
        }
    }

    /** IMAGES ahead of it are drafted so that both LISTS have one DIGEST. */
    private static void draftFirstList(Line line) {
        line.x.draft(3, 2, 119843);
        line.offer(2, 16, 973, 4);
    }

    private static void draftSecondList(Line line) {
        line.x.draft(3, 2, 76204);
        line.offer(2, 62, 1539, 4);
    }

    private static void listOfAnotherVersion() {
        Due.promise(14, "its role (2); VERSION as TIME tells (3)");
        Line line = new Line(40);
        Device x = line.x;
        draftFirstList(line);
        line.toTime(10);
        Due.is("TIME", line.sendTime(1, 500), 3);
        Due.is("the VERSION wanted", x.awaits(1), 16);
        draftSecondList(line);
        Due.is("its DIGEST is as told, its VERSION is not", x.answer(), -13);
        Due.is("the ERROR", x.told(13), 3);
        Due.is("it is not KEPT", x.trusted(2, 0, 0), NONE);
    }

    private static void trustedListOfAnotherVersion() {
        Due.promise(14, "(What is TRUSTED already and looked at as if it came may so be an error, too.)");
        Line line = new Line(40);
        Device x = line.x;
        draftFirstList(line);
        line.toTime(10);
        line.sendTime(1, 500);
        draftFirstList(line);
        Due.is("LIST", x.answer(), 4);
        x.stop();
        draftSecondList(line);
        line.toTime(10);
        Due.is("TIME tells of a LIST that is looked at", line.sendTime(2, 500), -13);
        Due.is("TIME is KEPT", x.trusted(1, 0, 0), 2);
        Due.is("it tells", x.trusted(1, 6, 0), 62);
        Due.is("LIST stays", x.trusted(2, 0, 0), 16);
    }

    private static void draftFirstImages(Line line) {
        line.x.clear();
        line.x.image(2, 359, 96);
        line.offer(3, 14, 1542, 5, 6);
    }

    private static void draftSecondImages(Line line) {
        line.x.clear();
        line.x.image(2, 259, 18);
        line.offer(3, 48, 1923, 5, 6);
    }

    /** Up to IMAGES; TIME tells of the LIST, and this of the IMAGES that were drafted last. */
    private static int sendTimeAndList(Line line, int version) {
        line.x.draft(2, version, 500);
        line.toTime(10);
        Due.is("TIME", line.sendTime(version, 500), 3);
        return line.sendList(version, 500);
    }

    private static void imagesOfAnotherVersion() {
        Due.promise(14, "IMAGES: 1; 5; 2; 3 (as LIST tells); 4.");
        Line line = new Line(40);
        Device x = line.x;
        draftFirstImages(line);
        Due.is("LIST", sendTimeAndList(line, 1), 4);
        Due.is("the VERSION wanted", x.awaits(1), 14);
        draftSecondImages(line);
        Due.is("their DIGEST is as told, their VERSION is not", x.answer(), -13);
        Due.is("the ERROR", x.told(13), 3);
        Due.is("they are not KEPT", x.trusted(3, 0, 0), NONE);
    }

    private static void trustedImagesOfAnotherVersion() {
        Due.promise(14, "(What is TRUSTED already and looked at as if it came may so be an error, too.)");
        Line line = new Line(40);
        Device x = line.x;
        draftFirstImages(line);
        sendTimeAndList(line, 1);
        draftFirstImages(line);
        Due.is("IMAGES", x.answer(), 5);
        x.stop();
        draftSecondImages(line);
        Due.is("LIST tells of IMAGES that are looked at", sendTimeAndList(line, 2), -13);
        Due.is("LIST is KEPT", x.trusted(2, 0, 0), 2);
        Due.is("it tells", x.trusted(2, 6, 0), 48);
        Due.is("IMAGES stay", x.trusted(3, 0, 0), 14);
    }
}
