/** Section 2: which rows of bytes are DOCUMENTS. A well formed one is refused for its keys or VERSION instead. */
public final class DocumentTest {
    private static final int MALFORMED = -11, TOO_FEW_KEYS = -12, VERSION = -13;

    public static void main(String[] args) {
        frame();
        root();
        told();
        images();
        Due.close("DocumentTest");
    }

    private static int answerTo(int awaited, Bytes document) {
        Line line = new Line(10);
        Device x = line.x;
        x.begin(10);
        if (awaited > 1) {
            x.refuse();
        }
        if (awaited > 2) {
            line.offer(3, 1, 500, 5, 6);
            line.offer(2, 1, 500, 4);
            line.sendTime(1, 500);
        }
        if (awaited > 3) {
            line.sendList(1, 500);
        }
        Due.is("AWAITED", x.awaits(0), awaited);
        document.feedTo(x);
        Due.is("the tape's size", Bytes.sizeOfTape(x), document.size());
        return x.answer();
    }

    private static void isDue(String what, int awaited, Bytes document, int want) {
        Due.is(what, answerTo(awaited, document), want);
    }

    private static Bytes time() {
        return Bytes.told(1, 500, 1, 0);
    }

    private static void frame() {
        isDue("an empty row", 2, new Bytes(), MALFORMED);
        isDue("a role alone", 2, new Bytes().ones(1), MALFORMED);
        isDue("without keys", 2, Bytes.document(1, time()), TOO_FEW_KEYS);
        isDue("with a key", 2, Bytes.document(1, time(), 3), TOO_FEW_KEYS);
        isDue("with key 15", 2, Bytes.document(1, time(), 0, 3, 15), TOO_FEW_KEYS);
        isDue("with all keys", 2, Bytes.document(1, time(), 0, 1, 2, 3, 4, 5, 6, 7, 8, 9, 10, 11, 12, 13, 14, 15),
                TOO_FEW_KEYS);
        isDue("with key 16", 2, Bytes.document(1, time(), 3, 16), MALFORMED);
        isDue("keys that fall", 2, Bytes.document(1, time(), 4, 3), MALFORMED);
        isDue("a key twice", 2, Bytes.document(1, time(), 3, 3), MALFORMED);
        isDue("a byte more", 2, Bytes.document(1, time(), 3).ones(4), MALFORMED);
        Bytes less = Bytes.document(1, time(), 3, 4);
        less.all.remove(less.size() - 1);
        isDue("a byte less", 2, less, MALFORMED);
        Bytes noCount = new Bytes().num(1, 1).num(16, 2).add(time());
        isDue("no number of keys", 2, noCount, MALFORMED);
        isDue("role 4", 2, Bytes.document(4, time(), 3), MALFORMED);
        isDue("role 255", 2, Bytes.document(255, time(), 3), MALFORMED);
        isDue("a BODY that is longer than the row", 2, new Bytes().num(1, 1).num(65535, 2).add(time()).ones(0),
                MALFORMED);
        isDue("no BODY", 2, Bytes.document(1, new Bytes(), 1, 2, 3, 4, 5, 6, 7, 8), MALFORMED);
        isDue("a long row", 2, Bytes.document(1, time(), 3).padTo(300), MALFORMED);
    }

    private static Bytes rootBody(int... roles) {
        return new Bytes().num(2, 2).num(900, 4).ones(roles);
    }

    private static void isRoot(String what, Bytes body, int want) {
        isDue(what, 1, Bytes.document(0, body, 0, 1), want);
    }

    private static void root() {
        isRoot("the factory's", rootBody(2, 3, 0, 1, 2, 1, 1, 3, 1, 1, 4, 2, 2, 5, 6), TOO_FEW_KEYS);
        isRoot("one key each", rootBody(1, 1, 0, 1, 1, 0, 1, 1, 0, 1, 1, 15), TOO_FEW_KEYS);
        isRoot("five keys", rootBody(5, 5, 0, 1, 2, 3, 4, 1, 1, 0, 1, 1, 0, 1, 1, 15), TOO_FEW_KEYS);
        isRoot("six keys", rootBody(5, 6, 0, 1, 2, 3, 4, 5, 1, 1, 0, 1, 1, 0, 1, 1, 15), MALFORMED);
        isRoot("THRESHOLD 0", rootBody(1, 1, 0, 0, 1, 0, 1, 1, 0, 1, 1, 15), MALFORMED);
        isRoot("THRESHOLD 2 of 1", rootBody(1, 1, 0, 1, 1, 0, 2, 1, 0, 1, 1, 15), MALFORMED);
        isRoot("no key", rootBody(1, 1, 0, 1, 1, 0, 1, 1, 0, 1, 0), MALFORMED);
        isRoot("no key, THRESHOLD 0", rootBody(1, 1, 0, 1, 1, 0, 1, 1, 0, 0, 0), MALFORMED);
        isRoot("key 16", rootBody(1, 1, 16, 1, 1, 0, 1, 1, 0, 1, 1, 15), MALFORMED);
        isRoot("keys that fall", rootBody(1, 2, 5, 4, 1, 1, 0, 1, 1, 0, 1, 1, 15), MALFORMED);
        isRoot("a key twice", rootBody(1, 2, 5, 5, 1, 1, 0, 1, 1, 0, 1, 1, 15), MALFORMED);
        isRoot("three roles", rootBody(1, 1, 0, 1, 1, 0, 1, 1, 0), MALFORMED);
        isRoot("a byte more", rootBody(1, 1, 0, 1, 1, 0, 1, 1, 0, 1, 1, 15, 0), MALFORMED);
        isRoot("a byte less", rootBody(1, 1, 0, 1, 1, 0, 1, 1, 0, 1, 1), MALFORMED);
        isRoot("no roles", rootBody(), MALFORMED);
        isRoot("keys beyond the BODY", rootBody(1, 1, 0, 1, 1, 0, 1, 1, 0, 1, 2, 15), MALFORMED);
        Bytes other = new Bytes().num(0, 2).num(900, 4).ones(1, 1, 0, 1, 1, 0, 1, 1, 0, 1, 1, 15);
        isRoot("VERSION 0", other, MALFORMED);
        other = new Bytes().num(65535, 2).num(-1, 4).ones(1, 1, 0, 1, 1, 0, 1, 1, 0, 1, 1, 15);
        isRoot("the greatest VERSION and END", other, VERSION);
    }

    private static void told() {
        for (int role = 1; role <= 2; role++) {
            int good = role == 1 ? TOO_FEW_KEYS : -15;
            isDue("as it is", role + 1, Bytes.document(role, Bytes.told(1, 500, 1, 0), 3), good);
            isDue("the greatest numbers", role + 1, Bytes.document(role, Bytes.told(65535, -1, 65535, -1), 3), good);
            isDue("VERSION 0", role + 1, Bytes.document(role, Bytes.told(0, 500, 1, 0), 3), MALFORMED);
            isDue("it tells VERSION 0", role + 1, Bytes.document(role, Bytes.told(1, 500, 0, 0), 3), MALFORMED);
            isDue("a byte more", role + 1, Bytes.document(role, Bytes.told(1, 500, 1, 0).ones(0), 3), MALFORMED);
            isDue("a byte less", role + 1, Bytes.document(role, new Bytes().num(1, 2).num(500, 4).num(1, 2).num(0, 7),
                    3), MALFORMED);
        }
    }

    private static Bytes imagesBody(int count, int... versionsAndLengths) {
        Bytes body = new Bytes().num(1, 2).num(500, 4).num(count, 1);
        for (int i = 0; i + 1 < versionsAndLengths.length; i += 2) {
            body.num(versionsAndLengths[i], 2).num(versionsAndLengths[i + 1], 2).num(77, 8);
        }
        return body;
    }

    private static void isImages(String what, Bytes body, int want) {
        isDue(what, 4, Bytes.document(3, body, 5, 6), want);
    }

    private static void images() {
        int good = -15;
        isImages("none", new Bytes().num(1, 2).num(501, 4).num(0, 1), good);
        isImages("no number of images", new Bytes().num(1, 2).num(501, 4), MALFORMED);
        isImages("one", imagesBody(1, 1, 1), good);
        isImages("four", imagesBody(4, 1, 1, 2, 1024, 300, 77, 65535, 5), good);
        Bytes longest = Bytes.document(3, imagesBody(4, 1, 1, 2, 1024, 300, 77, 65535, 5),
                0, 1, 2, 3, 4, 5, 6, 7, 8, 9, 10, 11, 12, 13, 14, 15);
        Due.is("the longest DOCUMENT", longest.size(), 75);
        isDue("four, with all keys", 4, longest, good);
        isImages("five", imagesBody(5, 1, 1, 2, 1024, 300, 77, 400, 5, 500, 5), MALFORMED);
        isImages("VERSION 0", imagesBody(1, 0, 1), MALFORMED);
        isImages("VERSIONS that do not rise", imagesBody(2, 5, 1, 5, 1), MALFORMED);
        isImages("VERSIONS that fall", imagesBody(2, 5, 1, 4, 1), MALFORMED);
        isImages("LENGTH 0", imagesBody(1, 1, 0), MALFORMED);
        isImages("LENGTH 1025", imagesBody(1, 1, 1025), MALFORMED);
        isImages("fewer than told", imagesBody(2, 1, 1), MALFORMED);
        isImages("more than told", imagesBody(1, 1, 1, 2, 1), MALFORMED);
        isImages("VERSION 0 of their own", new Bytes().num(0, 2).num(501, 4).num(0, 1), MALFORMED);
    }
}
