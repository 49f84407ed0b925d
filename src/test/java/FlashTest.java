/** Promises 18 power and 23 flash: what is written where, and what a CUT leaves of it. */
public final class FlashTest {
    private static final int BAD = FlashTrust.BAD, DOWN = FlashTrust.DOWN, NONE = FlashTrust.NONE;

    public static void main(String[] args) {
        power();
        records();
        longestRecord();
        cutWriting();
        cutInTheCheck();
        cutErasing(0);
        cutErasing(-1);
        cutErasing(1);
        cutErasing(0x80000000);
        cutErasing(0x12345678);
        whenDown();
        everyCutOfAnUpdate();
        rootCutBetweenItsDrops();
        Due.close("FlashTest");
    }

    private static void power() {
        Device x = new Device(10);
        Due.is("power(-2)", x.power(-2, 0), BAD);
        Due.is("power(501)", x.power(501, 0), BAD);
        Due.is("none told", x.told(12), -1);
        Due.is("power(500)", x.power(500, 7), 1);
        Due.is("those left", x.told(12), 500);
        Due.is("a wrong one", x.power(501, 7), BAD);
        Due.is("changes nothing", x.told(12), 500);
        Due.is("power(-1)", x.power(-1, 7), 1);
        Due.is("none told any more", x.told(12), -1);
        Due.is("power(3)", x.power(3, 7), 1);
        Due.is("boot", x.boot(), 1);
        Due.is("it stays told", x.told(12), 3);
    }

    private static void records() {
        Line line = new Line(10);
        Device x = line.x;
        line.toTime(10);
        x.power(5, 0);
        line.prepare(1, 500);
        Bytes images = new Bytes().num(1, 2).num(500, 4).num(0, 1);
        Bytes list = Bytes.told(1, 500, 1, images.digest());
        line.sendTime(1, 400);
        Due.is("two are gone", x.told(12), 3);
        Bytes time = Bytes.document(1, Bytes.told(1, 400, 1, list.digest()), 3);
        Bytes.record(1, time).padTo(128).isOnFlash("TIME", x, 2, 0);
        line.sendList(1, 500);
        Bytes.record(1, Bytes.document(2, list, 4)).padTo(128).isOnFlash("LIST", x, 4, 0);
        x.power(-1, 0);
        line.sendImages(1, 500);
        Bytes.record(1, Bytes.document(3, images, 5, 6)).padTo(128).isOnFlash("IMAGES", x, 6, 0);
        new Bytes().padTo(128).isOnFlash("the other sector", x, 3, 0);
        line.toTime(10);
        line.sendTime(2, 400);
        Bytes.record(1, time).padTo(128).isOnFlash("TIME stays", x, 2, 0);
        time = Bytes.document(1, Bytes.told(2, 400, 1, list.digest()), 3);
        Bytes.record(2, time).padTo(128).isOnFlash("the next TIME", x, 3, 0);
        line.toTime(10);
        line.sendTime(3, 400);
        Bytes.record(2, time).padTo(128).isOnFlash("the second stays", x, 3, 0);
        time = Bytes.document(1, Bytes.told(3, 400, 1, list.digest()), 3);
        Bytes.record(3, time).padTo(128).isOnFlash("the third TIME", x, 2, 0);
        x.begin(10);
        line.send(0, 2, 900, 0, 1);
        Bytes root = new Bytes().num(2, 2).num(900, 4).ones(2, 3, 0, 1, 2, 1, 1, 3, 1, 1, 4, 2, 2, 5, 6);
        Bytes.record(1, Bytes.document(0, root, 0, 1)).padTo(128).isOnFlash("ROOT", x, 0, 0);
        Due.is("writings", x.told(10), 7);
        Due.is("erasings", x.told(11), 6);
    }

    private static void longestRecord() {
        Line line = new Line(10);
        Device x = line.x;
        Bytes body = new Bytes().num(1, 2).num(500, 4).num(4, 1);
        for (int i = 0; i < 4; i++) {
            x.image(2 + i, 100 + i, i);
            body.num(2 + i, 2).num(100 + i, 2).num(Bytes.program(100 + i, i).digest(), 8);
        }
        line.toTime(10);
        line.prepare(1, 500);
        line.sendTime(1, 500);
        line.sendList(1, 500);
        int writings = x.told(10);
        int[] keys = new int[16];
        for (int i = 0; i < 16; i++) {
            keys[i] = i;
        }
        x.power(3, -1);
        Due.is("IMAGES by all keys, cut in the last page", line.send(3, 1, 500, keys), DOWN);
        Due.is("three pages", x.told(10), writings + 3);
        Due.is("none yet", x.trusted(3, 0, 0), NONE);
        x.boot();
        line.toTime(10);
        line.sendTime(1, 500);
        Due.is("once more", line.send(3, 1, 500, keys), 5);
        Due.is("all keys", x.trusted(3, 2, 0), 65535);
        Due.is("VERSION of the last", x.trusted(3, 8, 3), 5);
        Bytes.record(1, Bytes.document(3, body, keys)).padTo(128).isOnFlash("the longest", x, 6, 0);
    }

    private static void cutWriting() {
        Line line = new Line(10);
        Device x = line.x;
        x.begin(10);
        x.power(2, 0);
        Due.is("the second page of ROOT", line.send(0, 2, 900, 0, 1), DOWN);
        Bytes root = new Bytes().num(2, 2).num(900, 4).ones(2, 3, 0, 1, 2, 1, 1, 3, 1, 1, 4, 2, 2, 5, 6);
        Bytes record = Bytes.record(1, Bytes.document(0, root, 0, 1));
        while (record.size() > 32) {
            record.all.remove(32);
        }
        record.padTo(128).isOnFlash("the first page alone", x, 0, 0);
        Due.is("writings, the cut one too", x.told(10), 2);
        Due.is("erasings", x.told(11), 1);
        Due.is("it is the factory's still", x.trusted(0, 0, 0), 1);
        Due.is("without a number", x.trusted(0, 3, 0), 0);
        x.boot();
        x.begin(10);
        Due.is("once more", line.send(0, 2, 900, 0, 1), 1);
        Due.is("number 1", x.trusted(0, 3, 0), 1);
        Due.is("in the first sector", x.flash(0, 3), 1);
    }

    /** With three keys the DOCUMENT ends in the first page, and the last bytes of its CHECK stand in the second. */
    private static void cutInTheCheck() {
        Line line = new Line(10);
        Device x = line.x;
        line.toTime(10);
        x.power(2, 0);
        Due.is("the second page", line.send(1, 1, 400, 3, 4, 5), DOWN);
        Bytes time = Bytes.document(1, Bytes.told(1, 400, 1, 0), 3, 4, 5);
        Due.is("the DOCUMENT's end", 6 + time.size(), 29);
        time.isOnFlash("the DOCUMENT is there", x, 2, 6);
        Due.is("a byte of the CHECK is not", x.flash(2, 32), 255);
        Due.is("it is not TRUSTED", x.trusted(1, 0, 0), NONE);
        Due.is("nor has it a number", x.trusted(1, 3, 0), 0);
    }

    private static void cutErasing(int mask) {
        Line line = new Line(10);
        Device x = line.x;
        for (int version = 1; version <= 2; version++) {
            line.toTime(10);
            line.sendTime(version, 400);
            x.stop();
        }
        int[] before = new int[128];
        for (int i = 0; i < 128; i++) {
            before[i] = x.flash(2, i);
        }
        line.toTime(10);
        x.power(0, mask);
        Due.is("the erasing is cut", line.sendTime(3, 400), DOWN);
        for (int bit = 0; bit < 1024; bit++) {
            boolean stays = (mask >> bit % 32 & 1) != 0;
            int want = stays ? before[bit / 8] >> bit % 8 & 1 : 1;
            Due.is("mask " + mask + ", bit " + bit, x.flash(2, bit / 8) >> bit % 8 & 1, want);
        }
        Due.is("erasings, the cut one too", x.told(11), 3);
        Due.is("writings", x.told(10), 2);
        Due.is("the second one is TRUSTED", x.trusted(1, 0, 0), 2);
        Due.is("its number", x.trusted(1, 3, 0), 2);
        x.boot();
        line.toTime(10);
        Due.is("once more", line.sendTime(3, 400), 3);
        Due.is("TRUSTED", x.trusted(1, 0, 0), 3);
        Due.is("its number", x.trusted(1, 3, 0), 3);
    }

    private static void whenDown() {
        Line line = new Line(10);
        Device x = line.x;
        line.toTime(10);
        x.power(0, 5);
        line.sendTime(1, 500);
        line.isTold("DOWN", 1, 0, 0, 0, 1, 10, 0, 0, 0, 1, 0, 1, -1, 0, 0);
        Due.is("power when DOWN", x.power(4, 0), 1);
        Due.is("it is told", x.told(12), 4);
        Due.is("a wrong one when DOWN", x.power(501, 0), BAD);
        Due.is("the other side goes on", x.draft(1, 1, 1), 16);
        Due.is("flash tells", x.flash(8, 3), 1);
        Due.is("trusted tells", x.trusted(1, 0, 0), NONE);
        Due.is("digest tells", x.digest(), 1469598103934665603L);
        Due.is("boot", x.boot(), 1);
        Due.is("it stays told", x.told(12), 4);
        Due.is("not DOWN", x.told(0), 0);
        Due.is("no UPDATE", x.awaits(0), 0);
    }

    /** Wherever power fails, the device comes up with its old program and the UPDATE can be done. */
    private static void everyCutOfAnUpdate() {
        int[] masks = {0, -1, 0x0F0F0F0F, 0x13579BDF};
        for (int n = 0; n < 24; n++) {
            for (int mask : masks) {
                Line line = new Line(40);
                Device x = line.x;
                x.image(2, 130, 5);
                x.power(n, mask);
                int said = line.toPieces(1);
                if (said == 5) {
                    said = line.sendPieces();
                }
                // Eleven erasings and eleven writings make the UPDATE.
                Due.is("cut behind " + n, said, n < 22 ? DOWN : 0);
                Due.is("operations", x.told(10) + x.told(11), Math.min(n + 1, 22));
                if (n < 22) {
                    Due.is("boot of the old one", x.boot(), 1);
                    x.power(-1, 0);
                    Due.is("the UPDATE is taken up", line.toPieces(1), 5);
                    Due.is("and done", line.sendPieces(), 0);
                }
                x.power(-1, 0);
                Due.is("boot of the new one", x.boot(), 2);
            }
        }
    }

    private static void rootCutBetweenItsDrops() {
        for (int n = 0; n <= 6; n++) {
            Line line = new Line(10);
            Device x = line.x;
            line.toPieces(1);
            x.plan(2, 256, 1);
            x.begin(10);
            x.power(n, -1);
            line.send(0, 2, 900, 0, 1);
            Due.is("TIME behind " + n, x.trusted(1, 0, 0), n < 2 ? 1 : NONE);
            Due.is("LIST behind " + n, x.trusted(2, 0, 0), n < 4 ? 1 : NONE);
            Due.is("ROOT behind " + n, x.trusted(0, 0, 0), 1);
            Due.is("DOWN", x.told(0), 1);
        }
    }
}
