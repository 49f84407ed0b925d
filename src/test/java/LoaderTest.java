/** Promises 19 boot, 20 test, 21 told: THE LOADER, its STATES, and PIECES on their way into a slot. */
public final class LoaderTest {
    private static final int BAD = FlashTrust.BAD, DOWN = FlashTrust.DOWN, STATE = FlashTrust.STATE;

    public static void main(String[] args) {
        bootOfTheFactory();
        passed();
        notPassed();
        bootOfATrial();
        statesOnFlash();
        statesGoRound();
        cutBoot();
        cutTest();
        cutStateErasing();
        slotGoneAtReady();
        piecesOnFlash();
        wrongLengths();
        wrongProgram();
        resumed();
        otherImageWhileLoading();
        backToSlotZero();
        Due.close("LoaderTest");
    }

    private static Line ready(int n, int length) {
        Line line = new Line(n);
        Due.is("READY", line.load(2, length, 5), 0);
        return line;
    }

    private static void bootOfTheFactory() {
        Device x = new Device(10);
        Due.is("test before boot", x.test(true), STATE);
        Due.is("boot", x.boot(), 1);
        Due.is("RUNS", x.told(1), 1);
        Due.is("not on trial", x.told(2), 0);
        Due.is("test", x.test(false), STATE);
        Due.is("boot again", x.boot(), 1);
        Due.is("nothing is written", x.told(10) + x.told(11), 0);
    }

    private static void passed() {
        Line line = ready(40, 130);
        Device x = line.x;
        Due.is("the old one RUNS", x.told(1), 1);
        Due.is("boot", x.boot(), 2);
        line.isTold("on trial", 0, 2, 1, 0, 1, 40, 3, 2, 130, 4, 12, 11, -1, 0, 0);
        Due.is("no UPDATE on trial", x.begin(5), STATE);
        Due.is("test", x.test(true), 2);
        line.isTold("CONFIRMED", 0, 2, 0, 1, 2, 130, 0, 0, 0, 5, 13, 12, -1, 0, 0);
        Due.is("no trial any more", x.test(true), STATE);
        Due.is("an UPDATE", x.begin(5), 1);
        Due.is("boot", x.boot(), 2);
        Due.is("not on trial", x.told(2), 0);
    }

    private static void notPassed() {
        Line line = ready(40, 130);
        Device x = line.x;
        x.boot();
        Due.is("test", x.test(false), 0);
        line.isTold("nothing RUNS", 0, 0, 0, 0, 1, 40, 0, 0, 0, 5, 13, 12, -1, 0, 0);
        Due.is("test again", x.test(false), STATE);
        Due.is("no UPDATE", x.begin(5), STATE);
        Due.is("boot", x.boot(), 1);
        Due.is("the same image may come again", line.toPieces(2), 5);
    }

    private static void bootOfATrial() {
        Line line = ready(40, 130);
        Device x = line.x;
        x.boot();
        Due.is("it is tried once", x.boot(), 1);
        line.isTold("went back", 0, 1, 0, 0, 1, 40, 0, 0, 0, 5, 13, 12, -1, 0, 0);
        Due.is("the old one stays", x.boot(), 1);
        Due.is("nothing more is written", x.told(9), 5);
    }

    private static void statesOnFlash() {
        Line line = ready(40, 130);
        Device x = line.x;
        long old = Bytes.factoryProgram(40).digest();
        long next = Bytes.program(130, 5).digest();
        Bytes sector8 = Bytes.state(1, new int[] {0, 1, 40, 0, 0, 0}, old, 0)
                .add(Bytes.state(2, new int[] {0, 1, 40, 1, 2, 130}, old, next))
                .add(Bytes.state(3, new int[] {0, 1, 40, 2, 2, 130}, old, next));
        sector8.padTo(128).isOnFlash("LOADING, READY", x, 8, 0);
        x.boot();
        Bytes.state(4, new int[] {0, 1, 40, 3, 2, 130}, old, next).isOnFlash("TRIED", x, 8, 96);
        new Bytes().padTo(128).isOnFlash("nothing there yet", x, 9, 0);
        x.test(true);
        Bytes.state(5, new int[] {1, 2, 130, 0, 0, 0}, next, 0).padTo(128).isOnFlash("CONFIRMED", x, 9, 0);
        Bytes.state(4, new int[] {0, 1, 40, 3, 2, 130}, old, next).isOnFlash("TRIED stays", x, 8, 96);
    }

    private static void statesGoRound() {
        Line line = new Line(40);
        Device x = line.x;
        for (int version = 2; version <= 5; version++) {
            x.clear();
            Due.is("READY " + version, line.load(version, 33, version), 0);
            Due.is("boot", x.boot(), version);
            Due.is("test", x.test(true), version);
            Due.is("number", x.told(9), 1 + 4 * (version - 1));
            Due.is("slot", x.told(3), (version + 1) % 2);
            Due.is("erasings", x.told(11), 12 * (version - 1));
            int sector = 8 + (version + 1) % 2;
            Due.is("the first page of " + sector, x.flash(sector, 3), 1 + 4 * (version - 1));
            new Bytes().padTo(96).isOnFlash("the others", x, sector, 32);
        }
    }

    private static void cutBoot() {
        Line line = ready(40, 130);
        Device x = line.x;
        x.power(0, 0);
        Due.is("cut ahead of TRIED", x.boot(), DOWN);
        line.isTold("DOWN", 1, 0, 0, 0, 1, 40, 2, 2, 130, 3, 12, 11, -1, 0, 0);
        Due.is("boot", x.boot(), 2);
        x.power(0, -1);
        Due.is("cut in the erasing ahead of NOTHING", x.boot(), DOWN);
        Due.is("TRIED still", x.told(6), 3);
        x.power(1, -1);
        Due.is("cut ahead of NOTHING", x.boot(), DOWN);
        Due.is("TRIED still", x.told(6), 3);
        Due.is("boot", x.boot(), 1);
        Due.is("NOTHING", x.told(6), 0);
    }

    private static void cutTest() {
        for (int kind = 0; kind < 2; kind++) {
            Line line = ready(40, 130);
            Device x = line.x;
            x.boot();
            x.power(kind, 0);
            Due.is("test", x.test(true), DOWN);
            line.isTold("DOWN", 1, 0, 0, 0, 1, 40, 3, 2, 130, 4, 12 + kind, 12, -1, 0, 0);
            Due.is("boot goes back", x.boot(), 1);
            line = ready(40, 130);
            x = line.x;
            x.boot();
            x.power(kind, 0);
            Due.is("test", x.test(false), DOWN);
            Due.is("boot goes back", x.boot(), 1);
        }
    }

    /** Of old STATES that a cut erasing left, none counts before the newest. */
    private static void cutStateErasing() {
        int[] masks = {-1, 0, 0x00FF00FF, 0x7FFFFFFF};
        for (int mask : masks) {
            Line line = ready(40, 130);
            Device x = line.x;
            x.boot();
            x.test(true);
            x.clear();
            line.load(3, 20, 9);
            Due.is("boot", x.boot(), 3);
            Due.is("number", x.told(9), 8);
            x.power(0, mask);
            Due.is("cut", x.test(true), DOWN);
            Due.is("number", x.told(9), 8);
            Due.is("boot", x.boot(), 2);
            Due.is("number", x.told(9), 9);
            Due.is("its page", x.flash(8, 3), 9);
            new Bytes().padTo(96).isOnFlash("the sector is erased again", x, 8, 32);
        }
    }

    private static void slotGoneAtReady() {
        Line line = ready(40, 130);
        Device x = line.x;
        x.image(3, 70, 6);
        x.power(4, 0);
        Due.is("cut ahead of the other IMAGES", line.toPieces(2), DOWN);
        Due.is("boot of what is READY", x.boot(), 2);
        line = ready(40, 130);
        x = line.x;
        x.image(3, 70, 6);
        // TIME and LIST take two each, IMAGES three, the first sector of the slot one.
        x.power(8, 0);
        Due.is("cut behind the first sector", line.toPieces(2), DOWN);
        Due.is("READY still", x.told(6), 2);
        Due.is("the slot is gone", x.flash(18, 0), 255);
        Due.is("boot finds it", x.boot(), 1);
        line.isTold("NOTHING", 0, 1, 0, 0, 1, 40, 0, 0, 0, 5);
        Due.is("TRIED, then NOTHING", x.flash(8, 96 + 15), 3);
    }

    private static void piecesOnFlash() {
        int[] lengths = {1, 31, 32, 33, 63, 64, 65, 96, 97, 128, 129, 1023, 1024};
        for (int length : lengths) {
            Line line = new Line(40);
            Device x = line.x;
            x.image(2, length, 77);
            line.toPieces(1);
            int before = x.told(10);
            Due.is("READY with " + length, line.sendPieces(), 0);
            Due.is("pages of " + length, x.told(10) - before, (length + 31) / 32 + 1);
            Bytes program = Bytes.program(length, 77).padTo(1024);
            for (int i = 0; i < 1024; i++) {
                Due.is(length + ", byte " + i, x.flash(18 + i / 128, i % 128), program.all.get(i));
            }
            Due.is("boot", x.boot(), 2);
            Due.is("LENGTH", x.told(8), length);
        }
    }

    private static void wrongLengths() {
        Line line = new Line(40);
        Device x = line.x;
        x.image(2, 130, 5);
        line.toPieces(1);
        Due.is("an empty one", x.answer(), -17);
        Due.is("the ERROR", x.told(13), 7);
        Due.is("LOADING stays", x.told(6), 1);
        line.toPieces(1);
        x.piece(2, 2);
        Due.is("one that is too short", x.answer(), -17);
        line.toPieces(1);
        x.piece(2, 0);
        x.answer();
        x.piece(2, 1);
        x.answer();
        x.piece(2, 1);
        Due.is("one that is too long", x.answer(), -17);
        Due.is("it goes on there", line.toPieces(1), 5);
        Due.is("PIECE 1 has the last byte", x.awaits(2), 1);
        Due.is("done", line.sendPieces(), 0);
    }

    private static void wrongProgram() {
        Line line = new Line(40);
        Device x = line.x;
        x.image(2, 70, 5);
        line.toPieces(1);
        x.piece(2, 0);
        x.spoil(10, 4);
        Due.is("a spoiled PIECE", x.answer(), 5);
        x.piece(2, 1);
        Due.is("the last one", x.answer(), -18);
        line.isTold("NOTHING", 0, 1, 0, 0, 1, 40, 0, 0, 0, 3, 9, 11, -1, 8, 0);
        Due.is("boot", x.boot(), 1);
        Due.is("the slot is erased anew", line.toPieces(1), 5);
        Due.is("erasings", x.told(11), 19);
        x.piece(2, 0);
        x.answer();
        x.piece(2, 1);
        x.spoil(0, 1);
        x.power(1, 0);
        Due.is("cut ahead of NOTHING", x.answer(), DOWN);
        Due.is("no ERROR then", x.told(13), 0);
        Due.is("LOADING still", x.told(6), 1);
    }

    private static void resumed() {
        Line line = new Line(40);
        Device x = line.x;
        x.image(2, 200, 5);
        line.toPieces(1);
        int erasings = x.told(11);
        x.stop();
        Due.is("nothing came yet", line.toPieces(1), 5);
        Due.is("PIECE 0", x.awaits(2), 0);
        line.x.piece(2, 0);
        x.answer();
        x.piece(2, 1);
        x.power(1, 0);
        Due.is("cut in PIECE 1", x.answer(), DOWN);
        Due.is("boot", x.boot(), 1);
        Due.is("LOADING stays", x.told(6), 1);
        Due.is("it goes on", line.toPieces(1), 5);
        Due.is("in PIECE 1", x.awaits(2), 1);
        Due.is("nothing is erased", x.told(11), erasings);
        Due.is("done", line.sendPieces(), 0);
        lastBytesAre255();
    }

    /** Byte i of seed 248 is 255 at i = 1 alone, so a program of two bytes ends with a 255. */
    private static void lastBytesAre255() {
        Line line = new Line(40);
        Device x = line.x;
        x.image(2, 2, 248);
        line.toPieces(1);
        x.piece(2, 0);
        Due.is("the last byte", x.byteOf(1), 255);
        Due.is("READY", x.answer(), 0);
        line = new Line(40);
        x = line.x;
        x.image(2, 66, 5);
        line.toPieces(1);
        x.feed(-1, -1, -1, -1, -1);
        x.feed(-1, -1, -1, -1, -1);
        x.feed(-1, -1, -1, -1, -1);
        x.feed(-1, -1, -1, -1, -1);
        x.end(4);
        Due.is("a PIECE of 255s", x.answer(), 5);
        x.stop();
        line.toPieces(1);
        Due.is("PIECE 0 without another byte", x.awaits(2), 0);
        Due.is("done", line.sendPieces(), 0);
    }

    private static void otherImageWhileLoading() {
        Line line = new Line(40);
        Device x = line.x;
        x.image(2, 200, 5);
        line.toPieces(1);
        x.piece(2, 0);
        x.answer();
        x.stop();
        x.clear();
        x.image(2, 200, 6);
        Due.is("another DIGEST", line.toPieces(2), 5);
        Due.is("PIECE 0", x.awaits(2), 0);
        Due.is("the slot is erased", x.flash(18, 0), 255);
        Due.is("number", x.told(9), 3);
        Due.is("done", line.sendPieces(), 0);
        x.image(3, 90, 6);
        Due.is("another one instead of READY", line.toPieces(3), 5);
        line.isTold("LOADING", 0, 1, 0, 0, 1, 40, 1, 3, 90, 5);
    }

    private static void backToSlotZero() {
        Line line = ready(1024, 130);
        Device x = line.x;
        x.boot();
        x.test(true);
        Due.is("the factory's program is there", x.flash(17, 127), (7 * 1023 + 3) & 255);
        Due.is("the next", line.load(9, 300, -3), 0);
        Due.is("slot 0 has it", x.flash(10, 0), 253);
        Due.is("and no more", x.flash(17, 127), 255);
        Due.is("slot 1 stays", x.flash(18, 0), 5);
        Due.is("boot", x.boot(), 9);
        Due.is("test", x.test(true), 9);
        Due.is("slot", x.told(3), 0);
        Due.is("told(15)", x.told(15), BAD);
    }
}
