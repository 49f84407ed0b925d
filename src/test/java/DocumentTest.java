/** Promise 14: which rows of bytes are DOCUMENTS. A well formed one is refused for its keys or VERSION instead. */
public final class DocumentTest {
    private static final int MALFORMED = -11, TOO_FEW_KEYS = -12, VERSION = -13, DIGEST = -15;

    public static void main(String[] args) {
        frame();
        lengthOfTheBody();
        keysOfADocument();
        root();
        rootRoles();
        told();
        images();
        imagesBrackets();
        everyCutAndEveryByteMore();
        Due.close("DocumentTest");
    }

    private static int answerTo(int awaited, Bytes document) {
        Line line = new Line(10);
        Device x = line.x;
        x.begin(10);
        if (awaited > 1) {
            x.refuse();
        }
        if (awaited > 2) {
            line.offer(3, 1, 500, 5, 6);
            line.offer(2, 1, 500, 4);
            line.sendTime(1, 500);
        }
        if (awaited > 3) {
            line.sendList(1, 500);
        }
        Due.is("AWAITED", x.awaits(0), awaited);
        document.feedTo(x);
        Due.is("the tape's size", Bytes.sizeOfTape(x), document.size());
        return x.answer();
    }

    private static void isDue(String what, int awaited, Bytes document, int want) {
        Due.is(what, answerTo(awaited, document), want);
    }

    private static Bytes time() {
        return Bytes.told(1, 500, 1, 0);
    }

    private static void frame() {
        Due.promise(14, "One that is not just so is MALFORMED.");
        isDue("an empty row", 2, new Bytes(), MALFORMED);
        isDue("a role alone", 2, new Bytes().ones(1), MALFORMED);
        isDue("without keys", 2, Bytes.document(1, time()), TOO_FEW_KEYS);
        isDue("with a key", 2, Bytes.document(1, time(), 3), TOO_FEW_KEYS);
        isDue("with key 15", 2, Bytes.document(1, time(), 0, 3, 15), TOO_FEW_KEYS);
        isDue("with all keys", 2, Bytes.document(1, time(), 0, 1, 2, 3, 4, 5, 6, 7, 8, 9, 10, 11, 12, 13, 14, 15),
                TOO_FEW_KEYS);
        isDue("with key 16", 2, Bytes.document(1, time(), 3, 16), MALFORMED);
        isDue("keys that fall", 2, Bytes.document(1, time(), 4, 3), MALFORMED);
        isDue("a key twice", 2, Bytes.document(1, time(), 3, 3), MALFORMED);
        isDue("a byte more", 2, Bytes.document(1, time(), 3).ones(4), MALFORMED);
        Bytes less = Bytes.document(1, time(), 3, 4);
        less.all.remove(less.size() - 1);
        isDue("a byte less", 2, less, MALFORMED);
        Bytes noCount = new Bytes().num(1, 1).num(16, 2).add(time());
        isDue("no number of keys", 2, noCount, MALFORMED);
        isDue("role 4", 2, Bytes.document(4, time(), 3), MALFORMED);
        isDue("role 255", 2, Bytes.document(255, time(), 3), MALFORMED);
        isDue("a BODY that is longer than the row", 2, new Bytes().num(1, 1).num(65535, 2).add(time()).ones(0),
                MALFORMED);
        isDue("no BODY", 2, Bytes.document(1, new Bytes(), 1, 2, 3, 4, 5, 6, 7, 8), MALFORMED);
        isDue("a long row", 2, Bytes.document(1, time(), 3).padTo(300), MALFORMED);
    }

    private static void lengthOfTheBody() {
        Due.promise(14, "the length of its BODY (2), the BODY, how many keys (1)");
        int[] lengths = {0, 1, 6, 14, 15, 17, 18, 20, 21, 255, 256 + 16, 65535};
        for (int length : lengths) {
            Bytes other = new Bytes().num(1, 1).num(length, 2).add(time()).num(4, 1).ones(0, 1, 2, 3);
            isDue("length " + length, 2, other, MALFORMED);
        }
        isDue("length 16", 2, new Bytes().num(1, 1).num(16, 2).add(time()).num(4, 1).ones(0, 1, 2, 3), TOO_FEW_KEYS);
    }

    private static void keysOfADocument() {
        Due.promise(14, "how many keys (1), and these (1 each, rising, 0 .. 15)");
        int[][] good = {{}, {0}, {15}, {0, 1}, {14, 15}, {0, 15}};
        for (int[] keys : good) {
            isDue(keys.length + " keys", 2, Bytes.document(1, time(), keys), TOO_FEW_KEYS);
        }
        int[][] wrong = {{16}, {17}, {255}, {1, 0}, {15, 15}, {0, 0}, {14, 15, 16}, {15, 14}, {3, 5, 4}, {0, 255}};
        for (int[] keys : wrong) {
            isDue(keys.length + " keys that are none", 2, Bytes.document(1, time(), keys), MALFORMED);
        }
        int[] counts = {0, 1, 3, 4, 15, 16, 17, 255};
        for (int count : counts) {
            Bytes other = new Bytes().num(1, 1).num(16, 2).add(time()).num(count, 1).ones(0, 1);
            isDue("two keys, but " + count + " are told", 2, other, MALFORMED);
        }
        Bytes seventeen = new Bytes().num(1, 1).num(16, 2).add(time()).num(17, 1);
        for (int key = 0; key < 17; key++) {
            seventeen.ones(key);
        }
        isDue("seventeen keys", 2, seventeen, MALFORMED);
    }

    private static Bytes rootBody(int... roles) {
        return new Bytes().num(2, 2).num(900, 4).ones(roles);
    }

    private static void isRoot(String what, Bytes body, int want) {
        isDue(what, 1, Bytes.document(0, body, 0, 1), want);
    }

    private static void root() {
        Due.promise(14, "A BODY begins with a VERSION (2, from 1 on) and an END (4, without sign).");
        isRoot("the factory's", rootBody(2, 3, 0, 1, 2, 1, 1, 3, 1, 1, 4, 2, 2, 5, 6), TOO_FEW_KEYS);
        isRoot("one key each", rootBody(1, 1, 0, 1, 1, 0, 1, 1, 0, 1, 1, 15), TOO_FEW_KEYS);
        isRoot("five keys", rootBody(5, 5, 0, 1, 2, 3, 4, 1, 1, 0, 1, 1, 0, 1, 1, 15), TOO_FEW_KEYS);
        isRoot("six keys", rootBody(5, 6, 0, 1, 2, 3, 4, 5, 1, 1, 0, 1, 1, 0, 1, 1, 15), MALFORMED);
        isRoot("THRESHOLD 0", rootBody(1, 1, 0, 0, 1, 0, 1, 1, 0, 1, 1, 15), MALFORMED);
        isRoot("THRESHOLD 2 of 1", rootBody(1, 1, 0, 1, 1, 0, 2, 1, 0, 1, 1, 15), MALFORMED);
        isRoot("no key", rootBody(1, 1, 0, 1, 1, 0, 1, 1, 0, 1, 0), MALFORMED);
        isRoot("no key, THRESHOLD 0", rootBody(1, 1, 0, 1, 1, 0, 1, 1, 0, 0, 0), MALFORMED);
        isRoot("key 16", rootBody(1, 1, 16, 1, 1, 0, 1, 1, 0, 1, 1, 15), MALFORMED);
        isRoot("keys that fall", rootBody(1, 2, 5, 4, 1, 1, 0, 1, 1, 0, 1, 1, 15), MALFORMED);
        isRoot("a key twice", rootBody(1, 2, 5, 5, 1, 1, 0, 1, 1, 0, 1, 1, 15), MALFORMED);
        isRoot("three roles", rootBody(1, 1, 0, 1, 1, 0, 1, 1, 0), MALFORMED);
        isRoot("a byte more", rootBody(1, 1, 0, 1, 1, 0, 1, 1, 0, 1, 1, 15, 0), MALFORMED);
        isRoot("a byte less", rootBody(1, 1, 0, 1, 1, 0, 1, 1, 0, 1, 1), MALFORMED);
        isRoot("no roles", rootBody(), MALFORMED);
        isRoot("keys beyond the BODY", rootBody(1, 1, 0, 1, 1, 0, 1, 1, 0, 1, 2, 15), MALFORMED);
        Bytes other = new Bytes().num(0, 2).num(900, 4).ones(1, 1, 0, 1, 1, 0, 1, 1, 0, 1, 1, 15);
        isRoot("VERSION 0", other, MALFORMED);
        other = new Bytes().num(65535, 2).num(-1, 4).ones(1, 1, 0, 1, 1, 0, 1, 1, 0, 1, 1, 15);
        isRoot("the greatest VERSION and END", other, VERSION);
    }

    /** A ROOT in which three roles have key 0 alone, and one has what is given. */
    private static Bytes rootWith(int role, int... given) {
        Bytes body = new Bytes().num(2, 2).num(900, 4);
        for (int r = 0; r < 4; r++) {
            body.ones(r == role ? given : new int[] {1, 1, 0});
        }
        return body;
    }

    private static void rootRoles() {
        Due.promise(14, "Then ROOT: for each role its THRESHOLD (1), how many keys (1, at most 5), and these (1 each, "
                + "rising, 0 .. 15); the THRESHOLD is 1 .. their number");
        int[][] good = {{1, 1, 0}, {1, 1, 15}, {1, 2, 0, 15}, {2, 2, 14, 15}, {4, 4, 1, 2, 3, 4}, {1, 5, 0, 1, 2, 3, 4},
            {5, 5, 11, 12, 13, 14, 15}};
        int[][] wrong = {{0, 0}, {1, 0}, {0, 1, 0}, {2, 1, 0}, {255, 1, 0}, {1, 1, 16}, {1, 1, 255}, {0, 2, 0, 1},
            {3, 2, 0, 1}, {1, 2, 1, 0}, {1, 2, 1, 1}, {1, 2, 15, 16}, {0, 5, 0, 1, 2, 3, 4}, {6, 5, 0, 1, 2, 3, 4},
            {1, 6, 0, 1, 2, 3, 4, 5}, {6, 6, 0, 1, 2, 3, 4, 5}, {1, 255, 0}};
        for (int role = 0; role < 4; role++) {
            for (int[] given : good) {
                isRoot("role " + role + ", " + given[0] + " of " + given[1], rootWith(role, given), TOO_FEW_KEYS);
            }
            for (int[] given : wrong) {
                isRoot("role " + role + ", " + given[0] + " of " + given[1], rootWith(role, given), MALFORMED);
            }
        }
    }

    private static void told() {
        Due.promise(14, "TIME: the VERSION of the LIST (2, from 1 on) and the DIGEST of its BODY (8). LIST: so of the "
                + "IMAGES.");
        for (int role = 1; role <= 2; role++) {
            int good = role == 1 ? TOO_FEW_KEYS : DIGEST;
            isDue("as it is", role + 1, Bytes.document(role, Bytes.told(1, 500, 1, 0), 3), good);
            isDue("the greatest numbers", role + 1, Bytes.document(role, Bytes.told(65535, -1, 65535, -1), 3), good);
            isDue("VERSION 256", role + 1, Bytes.document(role, Bytes.told(256, 500, 256, 0), 3), good);
            isDue("END 0", role + 1, Bytes.document(role, Bytes.told(1, 0, 1, 0), 3), good);
            isDue("VERSION 0", role + 1, Bytes.document(role, Bytes.told(0, 500, 1, 0), 3), MALFORMED);
            isDue("it tells VERSION 0", role + 1, Bytes.document(role, Bytes.told(1, 500, 0, 0), 3), MALFORMED);
            isDue("a byte more", role + 1, Bytes.document(role, Bytes.told(1, 500, 1, 0).ones(0), 3), MALFORMED);
            isDue("a byte less", role + 1, Bytes.document(role, new Bytes().num(1, 2).num(500, 4).num(1, 2).num(0, 7),
                    3), MALFORMED);
        }
    }

    private static Bytes imagesBody(int count, int... versionsAndLengths) {
        Bytes body = new Bytes().num(1, 2).num(500, 4).num(count, 1);
        for (int i = 0; i + 1 < versionsAndLengths.length; i += 2) {
            body.num(versionsAndLengths[i], 2).num(versionsAndLengths[i + 1], 2).num(77, 8);
        }
        return body;
    }

    private static void isImages(String what, Bytes body, int want) {
        isDue(what, 4, Bytes.document(3, body, 5, 6), want);
    }

    private static void imagesBrackets() {
        Due.promise(14, "IMAGES: how many (1, at most 4), and for each its VERSION (2, from 1 on, rising), LENGTH "
                + "(2, 1 .. 1,024) and DIGEST (8).");
        int[] versions = {0, 1, 2, 3, 4, 5, 65535};
        for (int place = 0; place < 4; place++) {
            for (int version : versions) {
                // The others are 2, 4, 6 and 8.
                int[] all = {2, 1, 4, 1, 6, 1, 8, 1};
                all[2 * place] = version;
                boolean rises = version > 2 * place && (place == 3 || version < 2 * place + 4);
                isImages("image " + place + " of VERSION " + version, imagesBody(4, all), rises ? DIGEST : MALFORMED);
            }
            int[] lengths = {0, 1, 2, 255, 256, 1023, 1024, 1025, 1280, 65535};
            for (int length : lengths) {
                int[] all = {2, 1, 4, 1, 6, 1, 8, 1};
                all[2 * place + 1] = length;
                boolean isLength = length >= 1 && length <= 1024;
                isImages("image " + place + " of LENGTH " + length, imagesBody(4, all), isLength ? DIGEST : MALFORMED);
            }
        }
        for (int count = 0; count <= 6; count++) {
            int[] all = new int[2 * count];
            for (int i = 0; i < count; i++) {
                all[2 * i] = i + 1;
                all[2 * i + 1] = 1;
            }
            Bytes body = imagesBody(count, all);
            if (count == 0) {
                body = new Bytes().num(1, 2).num(501, 4).num(0, 1);
            }
            isImages(count + " images", body, count <= 4 ? DIGEST : MALFORMED);
            isImages(count + " images and a byte", new Bytes().add(body).ones(0), MALFORMED);
            isImages(count + " images, one more is told", imagesBody(count + 1, all), MALFORMED);
            if (count > 0) {
                isImages(count + " images, one less is told", imagesBody(count - 1, all), MALFORMED);
            }
        }
    }

    /** Of each role one that is just so; then with its last bytes left out, and with a byte more. */
    private static void everyCutAndEveryByteMore() {
        Due.promise(14, "One that is not just so is MALFORMED.");
        Bytes[] documents = {Bytes.document(0, rootWith(0, 1, 1, 0), 0, 1), Bytes.document(1, time(), 3),
            Bytes.document(2, time(), 4), Bytes.document(3, imagesBody(1, 2, 30), 5, 6)};
        int[] good = {TOO_FEW_KEYS, TOO_FEW_KEYS, DIGEST, DIGEST};
        for (int role = 0; role < 4; role++) {
            Bytes all = documents[role];
            isDue("role " + role, role + 1, all, good[role]);
            for (int size = 0; size < all.size(); size++) {
                isDue("role " + role + ", its first " + size + " bytes", role + 1, all.part(0, size), MALFORMED);
            }
            isDue("role " + role + ", a byte more", role + 1, all.part(0, all.size()).ones(7), MALFORMED);
            isDue("role " + role + ", up to 300", role + 1, all.part(0, all.size()).padTo(300), MALFORMED);
            for (int other = 0; other < 6; other++) {
                if (other != role) {
                    Bytes changed = all.part(0, all.size());
                    changed.all.set(0, other);
                    isDue("role " + role + " as " + other, role + 1, changed, MALFORMED);
                }
            }
        }
    }

    private static void images() {
        Due.promise(14, "IMAGES: how many (1, at most 4), and for each its VERSION (2, from 1 on, rising), LENGTH "
                + "(2, 1 .. 1,024) and DIGEST (8).");
        int good = DIGEST;
        isImages("none", new Bytes().num(1, 2).num(501, 4).num(0, 1), good);
        isImages("no number of images", new Bytes().num(1, 2).num(501, 4), MALFORMED);
        isImages("one", imagesBody(1, 1, 1), good);
        isImages("four", imagesBody(4, 1, 1, 2, 1024, 300, 77, 65535, 5), good);
        Bytes longest = Bytes.document(3, imagesBody(4, 1, 1, 2, 1024, 300, 77, 65535, 5),
                0, 1, 2, 3, 4, 5, 6, 7, 8, 9, 10, 11, 12, 13, 14, 15);
        Due.is("the longest DOCUMENT", longest.size(), 75);
        isDue("four, with all keys", 4, longest, good);
        isImages("five", imagesBody(5, 1, 1, 2, 1024, 300, 77, 400, 5, 500, 5), MALFORMED);
        isImages("VERSION 0", imagesBody(1, 0, 1), MALFORMED);
        isImages("VERSIONS that do not rise", imagesBody(2, 5, 1, 5, 1), MALFORMED);
        isImages("VERSIONS that fall", imagesBody(2, 5, 1, 4, 1), MALFORMED);
        isImages("LENGTH 0", imagesBody(1, 1, 0), MALFORMED);
        isImages("LENGTH 1025", imagesBody(1, 1, 1025), MALFORMED);
        isImages("fewer than told", imagesBody(2, 1, 1), MALFORMED);
        isImages("more than told", imagesBody(1, 1, 1, 2, 1), MALFORMED);
        isImages("VERSION 0 of their own", new Bytes().num(0, 2).num(501, 4).num(0, 1), MALFORMED);
    }
}
