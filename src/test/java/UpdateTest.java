/** Promises 13 begin, 14 answer, 15 refuse, 16 awaits, 17 stop: the ways and ERRORS of an UPDATE. */
public final class UpdateTest {
    private static final int BAD = FlashTrust.BAD, NONE = FlashTrust.NONE, DOWN = FlashTrust.DOWN,
            STATE = FlashTrust.STATE;

    public static void main(String[] args) {
        begin();
        whole();
        awaits();
        stop();
        refusals();
        answersAndTheTape();
        rootErrors();
        rootsInARow();
        rootDropsTimeAndList();
        rootLeavesTimeAndList();
        timeErrors();
        listErrors();
        imagesErrors();
        trustedIsLookedAt();
        nothingNewer();
        onlyOtherBodiesAreKept();
        Due.close("UpdateTest");
    }

    private static void begin() {
        Device x = new Device(30);
        Due.is("nothing RUNS", x.begin(0), STATE);
        Due.is("BAD ahead of STATE", x.begin(-1), BAD);
        x.boot();
        Due.is("below 0", x.begin(Integer.MIN_VALUE), BAD);
        Due.is("begin(0)", x.begin(0), 1);
        Due.is("one goes on", x.begin(7), STATE);
        x.stop();
        Due.is("the greatest clock", x.begin(Integer.MAX_VALUE), 1);
        Due.is("the clock", x.told(14), Integer.MAX_VALUE);
        Due.is("BAD while one goes on", x.begin(-1), BAD);
        x.stop();
        Due.is("no clock", x.told(14), 0);
        x.begin(5);
        x.answer();
        Due.is("the ERROR", x.told(13), 1);
        Due.is("no clock behind an ERROR", x.told(14), 0);
        x.begin(-5);
        Due.is("only an UPDATE takes it away", x.told(13), 1);
        x.begin(5);
        Due.is("begin makes it 0", x.told(13), 0);
    }

    private static void whole() {
        Line line = new Line(40);
        Device x = line.x;
        x.image(2, 130, 5);
        Due.is("begin", x.begin(10), 1);
        Due.is("refuse", x.refuse(), 2);
        line.prepare(1, 500);
        Due.is("TIME", line.sendTime(1, 400), 3);
        Due.is("LIST", line.sendList(1, 500), 4);
        Due.is("IMAGES", line.sendImages(1, 500), 5);
        line.isTold("LOADING", 0, 1, 0, 0, 1, 40, 1, 2, 130, 2, 5, 11, -1, 0, 10);
        x.piece(2, 0);
        Due.is("PIECE 0", x.answer(), 5);
        x.piece(2, 1);
        Due.is("PIECE 1", x.answer(), 5);
        x.piece(2, 2);
        Due.is("PIECE 2", x.answer(), 0);
        line.isTold("READY", 0, 1, 0, 0, 1, 40, 2, 2, 130, 3, 11, 11, -1, 0, 0);
        int[][] wanted = {{1, 0, 1}, {1, 1, 400}, {1, 2, 8}, {1, 3, 1}, {1, 6, 1}, {2, 0, 1}, {2, 1, 500}, {2, 2, 16},
            {2, 3, 1}, {2, 6, 1}, {3, 0, 1}, {3, 1, 500}, {3, 2, 96}, {3, 3, 1}, {3, 6, BAD}, {3, 7, 1}, {3, 8, 2},
            {3, 9, 130}, {1, 4, BAD}, {1, 5, BAD}, {2, 7, BAD}, {2, 8, BAD}, {2, 9, BAD}};
        for (int[] w : wanted) {
            Due.is("trusted(" + w[0] + ", " + w[1] + ", 0)", x.trusted(w[0], w[1], 0), w[2]);
        }
        Due.is("image 1 of one", x.trusted(3, 8, 1), BAD);
        Due.is("image -1", x.trusted(3, 9, -1), BAD);
        Due.is("READY already: done", line.toPieces(1), 0);
        Due.is("error 0", x.told(13), 0);
        Due.is("nothing is AWAITED", x.answer(), STATE);
    }

    private static void awaits() {
        Line line = new Line(40);
        Device x = line.x;
        isAwaited(x, "without an UPDATE", 0, 0, 0);
        Due.is("awaits(-1)", x.awaits(-1), BAD);
        Due.is("awaits(3)", x.awaits(3), BAD);
        x.image(700, 200, 5);
        x.begin(10);
        isAwaited(x, "a ROOT", 1, 2, 0);
        x.refuse();
        isAwaited(x, "TIME", 2, 0, 0);
        line.offer(3, 8, 500, 5, 6);
        line.offer(2, 6, 500, 4);
        line.sendTime(4, 500);
        isAwaited(x, "LIST", 3, 6, 0);
        line.sendList(6, 500);
        isAwaited(x, "IMAGES", 4, 8, 0);
        line.sendImages(8, 500);
        isAwaited(x, "PIECE 0", 5, 700, 0);
        x.piece(700, 0);
        x.answer();
        isAwaited(x, "PIECE 1", 5, 700, 1);
        x.stop();
        isAwaited(x, "given up", 0, 0, 0);
    }

    private static void isAwaited(Device x, String what, int awaited, int version, int piece) {
        Due.is(what + ", awaits(0)", x.awaits(0), awaited);
        Due.is(what + ", awaits(1)", x.awaits(1), version);
        Due.is(what + ", awaits(2)", x.awaits(2), piece);
    }

    private static void stop() {
        Device x = new Device(9);
        Due.is("no UPDATE", x.stop(), 0);
        x.boot();
        x.begin(5);
        Due.is("an UPDATE", x.stop(), 1);
        Due.is("none any more", x.stop(), 0);
        Due.is("no ERROR", x.told(13), 0);
        Due.is("nothing is AWAITED", x.refuse(), STATE);
        x.begin(5);
        x.boot();
        Due.is("boot gives it up", x.stop(), 0);
    }

    private static void refusals() {
        Line line = new Line(40);
        Device x = line.x;
        Due.is("nothing is AWAITED", x.refuse(), STATE);
        x.begin(999);
        Due.is("ROOT, END above the clock", x.refuse(), 2);
        x.feed(1, 2, 3, 4, 5);
        Due.is("TIME", x.refuse(), -16);
        Due.is("the ERROR", x.told(13), 6);
        Due.is("a REFUSAL is not the tape", x.byteOf(3), 1);
        x.begin(1000);
        Due.is("ROOT, END as the clock", x.refuse(), -14);
        x.image(2, 100, 1);
        line.toTime(10);
        line.prepare(1, 500);
        line.sendTime(1, 500);
        Due.is("LIST", x.refuse(), -16);
        line.toTime(10);
        line.sendTime(1, 500);
        line.sendList(1, 500);
        Due.is("IMAGES", x.refuse(), -16);
        line.toPieces(1);
        Due.is("a PIECE", x.refuse(), -16);
        Due.is("LOADING stays", x.told(6), 1);
    }

    private static void answersAndTheTape() {
        Line line = new Line(40);
        Device x = line.x;
        x.feed(1, 2, 3, 4, 5);
        Due.is("nothing is AWAITED", x.answer(), STATE);
        Due.is("the tape stays", x.byteOf(3), 1);
        x.begin(5);
        Due.is("MALFORMED", x.answer(), -11);
        Due.is("the tape is empty", x.byteOf(0), BAD);
        line.toTime(10);
        line.offer(2, 1, 500, 4);
        line.offer(1, 1, 500, 3);
        x.answer();
        Due.is("the tape is empty behind what is good", x.byteOf(0), BAD);
        x.power(0, 0);
        line.offer(2, 1, 500, 4);
        Due.is("power fails", x.answer(), DOWN);
        Due.is("the tape is empty, too", x.byteOf(0), BAD);
        x.feed(1, 2, 3, 4, 5);
        Due.is("DOWN before", x.answer(), DOWN);
        Due.is("the tape stays when DOWN", x.byteOf(3), 1);
        Due.is("refuse when DOWN", x.refuse(), DOWN);
        Due.is("stop when DOWN", x.stop(), DOWN);
        Due.is("begin when DOWN", x.begin(1), DOWN);
        Due.is("a wrong clock when DOWN", x.begin(-1), BAD);
        Due.is("test when DOWN", x.test(true), DOWN);
        Due.is("awaits when DOWN", x.awaits(0), 0);
    }

    private static void rootErrors() {
        Line line = new Line(40);
        Device x = line.x;
        x.begin(10);
        Due.is("another role", line.send(1, 2, 500, 0, 1), -11);
        x.begin(10);
        Due.is("the same VERSION, and no keys", line.send(0, 1, 500), -13);
        x.begin(10);
        Due.is("two more", line.send(0, 3, 500, 0, 1), -13);
        x.begin(10);
        Due.is("one key", line.send(0, 2, 500, 0), -12);
        x.begin(10);
        Due.is("one key of ROOT, and another's", line.send(0, 2, 500, 0, 3, 4, 5), -12);
        x.plan(0, 0x700, 2);
        x.begin(10);
        Due.is("not of itself", line.send(0, 2, 500, 0, 1, 8), -12);
        x.begin(10);
        Due.is("not of the TRUSTED one", line.send(0, 2, 500, 0, 8, 9), -12);
        Due.is("nothing is KEPT", x.told(10), 0);
        Due.is("the TRUSTED one stays", x.trusted(0, 3, 0), 0);
        x.begin(10);
        Due.is("of both", line.send(0, 2, 5, 0, 1, 8, 9), 1);
        Due.is("its VERSION", x.trusted(0, 0, 0), 2);
        Due.is("its keys", x.trusted(0, 2, 0), 0x303);
        Due.is("keys of ROOT", x.trusted(0, 4, 0), 0x700);
        Due.is("it has ended", x.refuse(), -14);
        x.begin(10);
        Due.is("the old keys do no more", line.send(0, 3, 500, 0, 1), -12);
        x.begin(10);
        line.offer(0, 3, 500, 9, 10);
        x.draft(0, 3, 500);
        Due.is("SIGNED, but not among its keys", answerTo(x), -12);
        x.begin(10);
        Bytes body = new Bytes().num(3, 2).num(600, 4)
                .ones(2, 3, 8, 9, 10, 1, 1, 3, 1, 1, 4, 2, 2, 5, 6);
        Bytes.document(0, body, 8, 9, 10).feedTo(x);
        Due.is("among its keys, but not SIGNED", x.answer(), -12);
    }

    private static int answerTo(Device x) {
        x.show();
        return x.answer();
    }

    private static void rootsInARow() {
        Line line = new Line(40);
        Device x = line.x;
        x.begin(10);
        for (int version = 2; version <= 5; version++) {
            Due.is("wanted", x.awaits(1), version);
            Due.is("ROOT " + version, line.send(0, version, 500 + version, 0, 2), 1);
            Due.is("its number", x.trusted(0, 3, 0), version - 1);
        }
        Due.is("then TIME", x.refuse(), 2);
        Due.is("writings", x.told(10), 8);
        Due.is("erasings", x.told(11), 4);
    }

    private static Line withTrusted() {
        Line line = new Line(40);
        line.x.image(2, 100, 1);
        line.toPieces(1);
        line.x.stop();
        return line;
    }

    private static void rootDropsTimeAndList() {
        for (int role = 1; role <= 2; role++) {
            for (int kind = 0; kind < 2; kind++) {
                Line line = withTrusted();
                Device x = line.x;
                int old = role == 1 ? 8 : 16;
                if (kind == 1) {
                    x.plan(role, old | 0x8000, 1);
                    x.begin(10);
                    line.send(0, 2, 500, 0, 1);
                    x.refuse();
                    line.prepare(1, 500);
                    line.sendTime(1, 500);
                    line.sendList(1, 500);
                    x.stop();
                    Due.is("trusted again", x.trusted(1, 0, 0), 1);
                    Due.is("trusted again", x.trusted(2, 0, 0), 1);
                }
                x.plan(role, kind == 0 ? 0x8000 : old | 0x8000, kind == 0 ? 1 : 2);
                x.begin(10);
                Due.is("ROOT", line.send(0, 2 + kind, 500, 0, 1), 1);
                Due.is("TIME went", x.trusted(1, 0, 0), NONE);
                Due.is("its number", x.trusted(1, 3, 0), 2 + 2 * kind);
                Due.is("no END of it", x.trusted(1, 1, 0), BAD);
                Due.is("LIST went", x.trusted(2, 0, 0), NONE);
                Due.is("its number", x.trusted(2, 3, 0), 2 + 2 * kind);
                Due.is("IMAGES stay", x.trusted(3, 0, 0), 1);
            }
        }
        Line line = withTrusted();
        line.x.plan(1, 0x8000, 1);
        line.x.begin(10);
        line.send(0, 2, 500, 0, 1);
        Bytes.record(2, new Bytes()).padTo(128).isOnFlash("no TIME", line.x, 3, 0);
        Bytes.record(2, new Bytes()).padTo(128).isOnFlash("no LIST", line.x, 5, 0);
        line.x.plan(1, 0x4000, 1);
        line.send(0, 3, 500, 0, 1);
        Due.is("none goes again", line.x.trusted(1, 3, 0), 2);
    }

    private static void rootLeavesTimeAndList() {
        Line line = withTrusted();
        Device x = line.x;
        x.plan(0, 0x83, 2);
        x.plan(3, 0x60, 1);
        x.begin(10);
        Due.is("ROOT", line.send(0, 2, 500, 0, 1), 1);
        Due.is("TIME stays", x.trusted(1, 0, 0), 1);
        Due.is("LIST stays", x.trusted(2, 0, 0), 1);
    }

    private static void timeErrors() {
        Line line = new Line(40);
        Device x = line.x;
        x.image(2, 100, 1);
        line.toTime(10);
        line.offer(3, 5, 500, 5, 6);
        line.offer(2, 5, 500, 4);
        Due.is("another role", x.answer(), -11);
        line.toTime(10);
        Due.is("another's key", line.send(1, 5, 500, 4), -12);
        line.toTime(10);
        Due.is("it ended", line.send(1, 5, 10, 3), -14);
        line.toTime(10);
        Due.is("it ends then", line.send(1, 5, 11, 3), 3);
        x.stop();
        line.toTime(11);
        Due.is("VERSION below, ended, no key", line.send(1, 4, 11), -12);
        line.toTime(11);
        Due.is("VERSION below, ended", line.send(1, 4, 11, 3), -13);
        line.offer(2, 4, 500, 4);
        line.toTime(11);
        Due.is("an older LIST, VERSION below", line.send(1, 4, 11, 3), -13);
        line.toTime(11);
        Due.is("an older LIST, ended", line.send(1, 5, 11, 3), -20);
        line.toTime(10);
        Due.is("an older LIST", line.send(1, 6, 500, 3), -20);
        line.offer(2, 5, 501, 4);
        line.toTime(10);
        Due.is("another LIST of the same VERSION", line.send(1, 5, 500, 3), 3);
        Due.is("KEPT", x.trusted(1, 3, 0), 2);
    }

    private static void listErrors() {
        Line line = new Line(40);
        Device x = line.x;
        x.image(2, 100, 1);
        line.offer(3, 5, 500, 5, 6);
        line.offer(2, 5, 500, 4);
        line.toTime(10);
        line.sendTime(1, 500);
        Due.is("another role", line.send(1, 5, 500, 3), -11);
        line.toTime(10);
        line.sendTime(1, 500);
        Due.is("another BODY, no key", line.send(2, 5, 501), -15);
        line.offer(2, 5, 10, 4);
        line.toTime(10);
        line.sendTime(2, 500);
        Due.is("no key, ended", line.send(2, 5, 10), -12);
        line.toTime(10);
        line.sendTime(2, 500);
        Due.is("ended", line.send(2, 5, 10, 4), -14);
        Due.is("nothing is KEPT", x.trusted(2, 0, 0), NONE);
        line.offer(2, 6, 500, 4);
        line.toTime(10);
        line.sendTime(3, 500);
        Due.is("good", line.sendList(6, 500), 4);
        x.stop();
        line.offer(3, 4, 500, 5, 6);
        line.offer(2, 7, 10, 4);
        line.toTime(10);
        line.sendTime(4, 500);
        Due.is("older IMAGES, ended", line.send(2, 7, 10, 4), -20);
    }

    private static void imagesErrors() {
        Line line = new Line(40);
        Device x = line.x;
        x.image(2, 100, 1);
        x.image(3, 200, 1);
        toImages(line, 1, 500);
        Due.is("another role", line.send(2, 1, 500, 4), -11);
        toImages(line, 1, 500);
        Due.is("another BODY", line.send(3, 1, 501), -15);
        toImages(line, 2, 10);
        Due.is("one key, ended", line.send(3, 2, 10, 5), -12);
        toImages(line, 2, 10);
        Due.is("ended", line.send(3, 2, 10, 5, 6), -14);
        Due.is("nothing is KEPT", x.trusted(3, 0, 0), NONE);
        toImages(line, 3, 500);
        Due.is("good", line.sendImages(3, 500), 5);
        Due.is("the last image", x.awaits(1), 3);
        Due.is("how many", x.trusted(3, 7, 0), 2);
        Due.is("VERSION of image 1", x.trusted(3, 8, 1), 3);
        Due.is("LENGTH of image 1", x.trusted(3, 9, 1), 200);
        Due.is("image 2", x.trusted(3, 8, 2), BAD);
    }

    private static void toImages(Line line, int version, int end) {
        line.x.stop();
        line.offer(3, version, end, 5, 6);
        line.offer(2, version, 500, 4);
        line.toTime(10);
        if (line.sendTime(version, 500) == 3) {
            line.sendList(version, 500);
        }
        Due.is("IMAGES are AWAITED", line.x.awaits(0), 4);
    }

    private static void trustedIsLookedAt() {
        Line line = new Line(40);
        Device x = line.x;
        x.image(2, 100, 1);
        line.toTime(10);
        line.offer(3, 1, 20, 5, 6);
        line.offer(2, 1, 30, 4);
        line.sendTime(1, 500);
        line.sendList(1, 30);
        Due.is("all came", line.sendImages(1, 20), 5);
        x.stop();
        line.toTime(19);
        Due.is("all are TRUSTED", line.sendTime(1, 500), 5);
        x.stop();
        line.toTime(20);
        Due.is("the IMAGES ended", line.sendTime(2, 500), -14);
        Due.is("TIME is KEPT", x.trusted(1, 0, 0), 2);
        line.toTime(30);
        Due.is("the LIST ended", line.sendTime(2, 500), -14);
        x.plan(3, 0x300, 1);
        x.begin(10);
        line.send(0, 2, 900, 0, 1);
        x.refuse();
        Due.is("the IMAGES have not enough keys", line.sendTime(2, 500), -12);
    }

    private static void nothingNewer() {
        Line line = new Line(40);
        Device x = line.x;
        Due.is("no image", line.toPieces(1), -19);
        Due.is("the ERROR", x.told(13), 9);
        Due.is("IMAGES are KEPT", x.trusted(3, 7, 0), 0);
        x.image(1, 100, 1);
        Due.is("VERSION as the CONFIRMED", line.toPieces(2), -19);
        x.image(2, 100, 1);
        Due.is("VERSION above it", line.toPieces(3), 5);
    }

    private static void onlyOtherBodiesAreKept() {
        Line line = withTrusted();
        Device x = line.x;
        int writings = x.told(10);
        line.toTime(10);
        Due.is("the same BODY by another row of keys", line.send(1, 1, 500, 3, 9), 5);
        Due.is("nothing is written", x.told(10), writings);
        Due.is("its keys stay", x.trusted(1, 2, 0), 8);
        Due.is("its number stays", x.trusted(1, 3, 0), 1);
        x.stop();
        line.toTime(10);
        Due.is("another BODY", line.send(1, 1, 501, 3), 5);
        Due.is("its number", x.trusted(1, 3, 0), 2);
        Due.is("the LIST's stays", x.trusted(2, 3, 0), 1);
    }
}
