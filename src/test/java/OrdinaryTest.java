/** Ordinary runs for the sentences that name no boundary: roles, what is AWAITED, ERRORS, what is TRUSTED and told. */
public final class OrdinaryTest {
    private static final int BAD = FlashTrust.BAD, NONE = FlashTrust.NONE, DOWN = FlashTrust.DOWN;

    public static void main(String[] args) {
        rolesOfDocuments();
        planOfTheFactory();
        planOfFourImages();
        draftIsADocument();
        signedByATable();
        trustedOfEachRole();
        whatIsAwaited();
        answersAndRefusals();
        numbersOfErrors();
        listAndImagesAreKeptLikewise();
        bootTellsWhatRuns();
        confirmedAndStaged();
        versionsAndEnds();
        Due.close("OrdinaryTest");
    }

    /** What DRAFTS by the factory's PLAN look like, without keys, VERSION 5 and END 500; without images. */
    private static Bytes[] drafts() {
        Bytes root = new Bytes().num(5, 2).num(500, 4).ones(2, 3, 0, 1, 2, 1, 1, 3, 1, 1, 4, 2, 2, 5, 6);
        Bytes images = new Bytes().num(5, 2).num(500, 4).ones(0);
        Bytes list = Bytes.told(5, 500, 5, images.digest());
        Bytes time = Bytes.told(5, 500, 5, list.digest());
        return new Bytes[] {Bytes.document(0, root), Bytes.document(1, time), Bytes.document(2, list),
            Bytes.document(3, images)};
    }

    private static void rolesOfDocuments() {
        Due.promise(8, "ROLES: 0 ROOT, 1 TIME, 2 LIST, 3 IMAGES. A DOCUMENT is its role (1 byte), the length of its BODY "
                + "(2), the BODY, how many keys (1), and these");
        Device x = new Device(40);
        Bytes[] wanted = drafts();
        for (int role = 3; role >= 0; role--) {
            Due.is("the BODY's length of " + role, x.draft(role, 5, 500), wanted[role].size() - 4);
            Due.is("bytes of " + role, x.show(), wanted[role].size());
            wanted[role].isOnTape("role " + role, x);
        }
    }

    private static void planOfTheFactory() {
        Due.promise(8, "5 THE OTHER SIDE makes DOCUMENTS: it has a PLAN: of each role keys and a THRESHOLD (at first the "
                + "factory's)");
        Device x = new Device(40);
        x.draft(0, 5, 500);
        x.show();
        drafts()[0].isOnTape("the factory's", x);
        Due.is("a role of its own keys", x.plan(2, 0x8001, 2), 1);
        Due.is("the BODY is longer by a key", x.draft(0, 5, 500), 22);
        x.show();
        Bytes.document(0, new Bytes().num(5, 2).num(500, 4).ones(2, 3, 0, 1, 2, 1, 1, 3, 2, 2, 0, 15, 2, 2, 5, 6))
                .isOnTape("LIST has others", x);
    }

    private static void planOfFourImages() {
        Due.promise(6, "and up to 4 images");
        Device x = new Device(40);
        Bytes body = new Bytes().num(5, 2).num(500, 4).num(0, 1);
        for (int i = 1; i <= 4; i++) {
            Due.is("image " + i, x.image(10 * i, 100 * i, i), i);
            body.num(10 * i, 2).num(100 * i, 2).num(Bytes.program(100 * i, i).digest(), 8);
            body.all.set(6, i);
            Due.is("the BODY's length", x.draft(3, 5, 500), 7 + 12 * i);
            x.show();
            Bytes.document(3, body).isOnTape(i + " images", x);
        }
        Due.is("a fifth", x.image(50, 500, 5), FlashTrust.FULL);
        Due.is("it did not come", x.draft(3, 5, 500), 55);
    }

    private static void draftIsADocument() {
        Due.promise(10, "DRAFT is a DOCUMENT being made.");
        Device x = new Device(40);
        Due.is("none at first", x.show(), BAD);
        x.draft(1, 5, 500);
        Due.is("a DRAFT", x.show(), 20);
        x.sign(9);
        Due.is("with a key", x.show(), 21);
        Due.is("the key", x.byteOf(20), 9);
        x.draft(3, 5, 500);
        Due.is("another one instead", x.show(), 11);
        Due.is("its role", x.byteOf(0), 3);
    }

    private static void signedByATable() {
        Due.promise(14, "A key has SIGNED a BODY, if sign() did so with it (a table of keys and DIGESTS, 400 at most). A "
                + "DOCUMENT HAS the role r of a ROOT");
        Line line = new Line(40);
        Device x = line.x;
        Bytes body = Bytes.told(1, 500, 1, 0);
        line.toTime(10);
        Bytes.document(1, body, 3).feedTo(x);
        Due.is("nobody signed", x.answer(), -12);
        line.toTime(10);
        Due.is("another key signed", line.send(1, 1, 500, 4), -12);
        line.toTime(10);
        Bytes.document(1, body, 3, 4).feedTo(x);
        Due.is("key 4 signed, key 3 is only named", x.answer(), -12);
        line.offer(1, 1, 501, 3);
        line.toTime(10);
        Bytes.document(1, body, 3).feedTo(x);
        Due.is("key 3 signed another BODY", x.answer(), -12);
        line.offer(1, 1, 500, 3);
        x.draft(0, 1, 1);
        line.toTime(10);
        Bytes.document(1, body, 3).feedTo(x);
        Due.is("key 3 signed this one, some DRAFTS ago", x.answer(), 3);
        x.stop();
        line.toTime(10);
        Bytes.document(1, body).feedTo(x);
        Due.is("signed, but not named", x.answer(), -12);
    }

    private static void trustedOfEachRole() {
        Due.promise(22, "TRUSTED are of each role a DOCUMENT or none, at first the ROOT of the factory: VERSION 1, END "
                + "1,000");
        Line line = new Line(40);
        Device x = line.x;
        areTrusted(x, 1, NONE, NONE, NONE);
        Due.is("END", x.trusted(0, 1, 0), 1000);
        line.toTime(10);
        line.prepare(3, 500);
        line.sendTime(4, 500);
        areTrusted(x, 1, 4, NONE, NONE);
        line.sendList(3, 500);
        areTrusted(x, 1, 4, 3, NONE);
        line.sendImages(3, 500);
        areTrusted(x, 1, 4, 3, 3);
        x.begin(10);
        line.send(0, 2, 600, 0, 1);
        areTrusted(x, 2, 4, 3, 3);
        Due.is("END", x.trusted(0, 1, 0), 600);
        x.boot();
        areTrusted(x, 2, 4, 3, 3);
    }

    private static void areTrusted(Device x, int... versions) {
        for (int role = 0; role < 4; role++) {
            Due.is("VERSION of role " + role, x.trusted(role, 0, 0), versions[role]);
        }
    }

    private static void whatIsAwaited() {
        Due.promise(16, "3 AN UPDATE is begun with a clock, and AWAITS: 1 a ROOT, 2 TIME, 3 LIST, 4 IMAGES, 5 a PIECE, "
                + "0 nothing.");
        Line line = new Line(40);
        Device x = line.x;
        x.image(2, 64, 5);
        Due.is("nothing", x.awaits(0), 0);
        Due.is("no clock", x.told(14), 0);
        isAwaited(x, x.begin(77), 1);
        isAwaited(x, line.send(0, 2, 900, 0, 1), 1);
        isAwaited(x, x.refuse(), 2);
        line.prepare(1, 500);
        isAwaited(x, line.sendTime(1, 500), 3);
        isAwaited(x, line.sendList(1, 500), 4);
        isAwaited(x, line.sendImages(1, 500), 5);
        x.piece(2, 0);
        Due.is("done", x.answer(), 0);
        Due.is("nothing", x.awaits(0), 0);
        Due.is("no clock", x.told(14), 0);
    }

    private static void isAwaited(Device x, int said, int wanted) {
        Due.is("what was answered", said, wanted);
        Due.is("what is AWAITED", x.awaits(0), wanted);
        Due.is("the clock", x.told(14), 77);
    }

    private static void answersAndRefusals() {
        Due.promise(15, "What comes is an ANSWER (a row of bytes) or a REFUSAL.");
        Line line = new Line(40);
        Device x = line.x;
        x.begin(10);
        line.offer(0, 2, 900, 0, 1);
        Due.is("a REFUSAL, whatever is on the tape", x.refuse(), 2);
        Due.is("it is no ANSWER", x.trusted(0, 0, 0), 1);
        x.stop();
        x.begin(10);
        Due.is("that row of bytes is one", x.answer(), 1);
        Due.is("KEPT", x.trusted(0, 0, 0), 2);
        Due.is("a row of no bytes is one, too", x.answer(), -11);
    }

    /** One way to each ERROR; told(13) and the answer name it. */
    private static void numbersOfErrors() {
        Due.promise(14, "1 MALFORMED, or of another role; 2 it has not enough keys; 3 the VERSION; 4 it ended (its END is "
                + "not above the clock); 5 the DIGEST; 6 REFUSED; 7 a PIECE's length; 8 the program's DIGEST; 9 nothing "
                + "that is newer; 10 what it names is older than what was trusted.");
        Line line = new Line(40);
        Device x = line.x;
        x.begin(10);
        x.feed(0, 0, 0, 0, 0);
        isError("a row of 0s", x, x.answer(), 1);
        x.begin(10);
        isError("TIME instead of a ROOT", x, line.sendTime(1, 500), 1);
        x.begin(10);
        isError("a ROOT by one key", x, line.send(0, 2, 500, 0), 2);
        x.begin(10);
        isError("a ROOT that is not the next", x, line.send(0, 3, 500, 0, 1), 3);
        line.toTime(10);
        isError("TIME that ended", x, line.sendTime(1, 10), 4);
        line.prepare(1, 500);
        line.toTime(10);
        line.sendTime(1, 500);
        isError("a LIST that TIME does not tell", x, line.sendList(1, 501), 5);
        line.toTime(10);
        isError("no TIME", x, x.refuse(), 6);
        x.image(2, 64, 5);
        line.toPieces(2);
        isError("no bytes", x, x.answer(), 7);
        line.toPieces(2);
        x.piece(2, 0);
        x.spoil(9, 9);
        isError("a PIECE with a wrong byte", x, x.answer(), 8);
        x.clear();
        isError("no image", x, line.toPieces(3), 9);
        line.prepare(2, 500);
        line.toTime(10);
        isError("TIME of an older LIST", x, line.sendTime(4, 500), 10);
    }

    private static void isError(String what, Device x, int said, int error) {
        Due.is(what, said, -10 - error);
        Due.is(what + ", the ERROR", x.told(13), error);
        Due.is(what + ", nothing is AWAITED", x.awaits(0), 0);
    }

    private static void listAndImagesAreKeptLikewise() {
        Due.promise(14, "4. KEPT likewise; then IMAGES, likewise. IMAGES: 1; 5; 2; 3 (as LIST tells); 4. KEPT likewise.");
        Line line = new Line(40);
        Device x = line.x;
        line.toTime(10);
        line.prepare(1, 500);
        Due.is("TIME", line.sendTime(1, 500), 3);
        areNumbers(x, 1, 0, 0);
        Due.is("LIST", line.sendList(1, 500), 4);
        areNumbers(x, 1, 1, 0);
        Due.is("IMAGES", line.sendImages(1, 500), -19);
        areNumbers(x, 1, 1, 1);
        line.toTime(10);
        Due.is("the same TIME; LIST and IMAGES are as told", line.sendTime(1, 500), -19);
        areNumbers(x, 1, 1, 1);
        x.draft(2, 2, 500);
        line.toTime(10);
        Due.is("TIME of another LIST", line.sendTime(2, 500), 3);
        areNumbers(x, 2, 1, 1);
        Due.is("that LIST; the IMAGES are as told", line.sendList(2, 500), -19);
        areNumbers(x, 2, 2, 1);
        line.prepare(3, 500);
        line.toTime(10);
        line.sendTime(3, 500);
        Due.is("LIST of other IMAGES", line.sendList(3, 500), 4);
        areNumbers(x, 3, 3, 1);
        Due.is("these IMAGES", line.sendImages(3, 500), -19);
        areNumbers(x, 3, 3, 2);
        x.plan(1, 8 + 128, 1);
        x.begin(10);
        line.send(0, 2, 900, 0, 1);
        areNumbers(x, 4, 4, 2);
        x.refuse();
        Due.is("TIME that was TRUSTED once; there is no LIST any more", line.sendTime(3, 500), 3);
        Due.is("the same LIST", line.sendList(3, 500), -19);
        areNumbers(x, 5, 5, 2);
    }

    private static void areNumbers(Device x, int... numbers) {
        for (int role = 1; role <= 3; role++) {
            Due.is("the record's number of role " + role, x.trusted(role, 3, 0), numbers[role - 1]);
        }
    }

    private static void bootTellsWhatRuns() {
        Due.promise(19, "BOOT: the VERSION that RUNS. DOWN: power failed.");
        Line line = new Line(40);
        Device x = line.x;
        Due.is("the factory's", x.boot(), 1);
        Due.is("READY", line.load(300, 70, 5), 0);
        x.power(0, 0);
        Due.is("power fails", x.boot(), DOWN);
        Due.is("on trial", x.boot(), 300);
        Due.is("RUNS", x.told(1), 300);
        x.test(true);
        Due.is("kept", x.boot(), 300);
        x.power(0, 0);
        Due.is("power that nothing wants does not fail", x.boot(), 300);
    }

    private static void confirmedAndStaged() {
        Due.promise(21, "3 the CONFIRMED slot, 4 VERSION, 5 LENGTH, 6 what is STAGED, 7 its VERSION, 8 its LENGTH, 9 the "
                + "number of the STATE (0: none counts)");
        Line line = new Line(40);
        Device x = line.x;
        isTold("at first", x, 0, 1, 40, 0, 0, 0, 1);
        x.image(300, 70, 5);
        line.toPieces(1);
        isTold("LOADING", x, 0, 1, 40, 1, 300, 70, 2);
        line.sendPieces();
        isTold("READY", x, 0, 1, 40, 2, 300, 70, 3);
        x.boot();
        isTold("TRIED", x, 0, 1, 40, 3, 300, 70, 4);
        x.test(true);
        isTold("CONFIRMED", x, 1, 300, 70, 0, 0, 0, 5);
        x.image(301, 1000, 6);
        line.toPieces(2);
        isTold("the next one", x, 1, 300, 70, 1, 301, 1000, 6);
    }

    private static void isTold(String what, Device x, int... numbers) {
        for (int i = 0; i < numbers.length; i++) {
            Due.is(what + ", told(" + (3 + i) + ")", x.told(3 + i), numbers[i]);
        }
    }

    private static void versionsAndEnds() {
        Due.promise(22, "0 VERSION, 1 END, 2 its keys as bits (0 of the factory's), 3 the record's number (0)");
        Line line = new Line(40);
        Device x = line.x;
        x.begin(10);
        line.send(0, 2, 70000, 0, 2, 15);
        x.refuse();
        line.prepare(300, 500);
        line.send(1, 65535, 0x7FFFFFFF, 3, 7);
        line.send(2, 300, 500, 4);
        line.send(3, 300, 500, 5, 6, 8);
        int[][] wanted = {{2, 70000, 0x8005, 1}, {65535, 0x7FFFFFFF, 0x88, 1}, {300, 500, 0x10, 1}, {300, 500, 0x160, 1}};
        for (int role = 0; role < 4; role++) {
            for (int what = 0; what < 4; what++) {
                Due.is("trusted(" + role + ", " + what + ", 9)", x.trusted(role, what, 9), wanted[role][what]);
            }
        }
    }
}
