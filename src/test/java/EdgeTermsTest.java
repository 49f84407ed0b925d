import java.math.BigInteger;

/** The boundaries that 'Terms' names ahead of the promises: flash, numbers, the factory's keys, slots, STATES, BOOT. */
public final class EdgeTermsTest {
    private static final int BAD = FlashTrust.BAD, DOWN = FlashTrust.DOWN, STATE = FlashTrust.STATE;

    public static void main(String[] args) {
        sectorsAndPages();
        erasingASector();
        cutWritingChangesNothing();
        nothingGoesOnWhenDown();
        numbersHaveTheHighestFirst();
        digestOfBytes();
        factoryKeysOfRoot();
        factoryKeysOfTheOthers();
        slots();
        factoryBytes();
        nothingRunsAtFirst();
        statesOfEachKind();
        bytesOfASlotAreNoState();
        testPassedIsConfirmed();
        testNotPassedIsNothing();
        bootLeavesDown();
        whatRuns();
        Due.close("EdgeTermsTest");
    }

    private static Bytes sector(Device x, int number) {
        Bytes bytes = new Bytes();
        for (int i = 0; i < 128; i++) {
            bytes.ones(x.flash(number, i));
        }
        return bytes;
    }

    private static Bytes wholeFlash(Device x) {
        Bytes bytes = new Bytes();
        for (int number = 0; number < 26; number++) {
            bytes.add(sector(x, number));
        }
        return bytes;
    }

    private static void isErased(String what, Device x, int first, int last) {
        for (int number = first; number <= last; number++) {
            new Bytes().padTo(128).isOnFlash(what, x, number, 0);
        }
    }

    private static void isInSlot(String what, Device x, int firstSector, Bytes program) {
        Bytes all = program.part(0, program.size()).padTo(1024);
        for (int i = 0; i < 8; i++) {
            all.part(128 * i, 128 * i + 128).isOnFlash(what, x, firstSector + i, 0);
        }
    }

    private static void sectorsAndPages() {
        Due.promise(23, "26 SECTORS of 4 PAGES of 32 bytes; erased bytes are 255.");
        Device x = new Device(1);
        isErased("the roles' sectors", x, 0, 7);
        new Bytes().padTo(96).isOnFlash("behind the first STATE", x, 8, 32);
        isErased("the other sector of STATES", x, 9, 9);
        isInSlot("slot 0", x, 10, new Bytes().ones(3));
        isErased("slot 1", x, 18, 25);
        Due.is("no sector behind the last", x.flash(26, 0), BAD);
        Due.is("no byte behind the last", x.flash(25, 128), BAD);
    }

    /** TIME of 16 keys has two pages in sector 2; the third TIME, of one key, has one page there. */
    private static void erasingASector() {
        Due.promise(23, "To KEEP a DOCUMENT (or none): the other sector is erased");
        Line line = new Line(1024);
        Device x = line.x;
        int[][] keys = {{0, 1, 2, 3, 4, 5, 6, 7, 8, 9, 10, 11, 12, 13, 14, 15}, {3, 4, 5}, {3}};
        for (int i = 0; i < 3; i++) {
            line.toTime(10);
            Due.is("TIME", line.send(1, i + 1, 500, keys[i]), 3);
            x.stop();
            Bytes record = Bytes.record(i + 1, Bytes.document(1, Bytes.told(i + 1, 500, 1, 0), keys[i]));
            record.padTo(128).isOnFlash("record " + (i + 1), x, 2 + i % 2, 0);
        }
        Due.promise(23, "ERASING a sector: all 255.");
        isErased("ROOT's stay erased", x, 0, 1);
        isErased("LIST's stay erased", x, 4, 5);
        x.image(2, 1024, 0);
        line.toPieces(4);
        for (int k = 0; k < 16; k++) {
            for (int i = 0; i < 4; i++) {
                x.feed(0, 0, 0, 0, 0);
            }
            x.end(4);
            Due.is("a PIECE of 0s", x.answer(), k < 15 ? 5 : -18);
        }
        Due.is("the first byte", x.flash(18, 0), 0);
        Due.is("the last byte", x.flash(25, 127), 0);
        Due.is("LOADING again", line.toPieces(4), 5);
        isErased("slot 1", x, 18, 25);
        isInSlot("slot 0 stays", x, 10, Bytes.factoryProgram(1024));
    }

    /** The writing of a record, of a STATE, and of either page of a PIECE; a mask is of no meaning for them. */
    private static void cutWritingChangesNothing() {
        Due.promise(18, "the one behind them is not, and power fails: a writing changes nothing");
        int[] masks = {0, -1, 0x0F0F0F0F};
        for (int mask : masks) {
            Line line = new Line(40);
            Device x = line.x;
            line.toTime(10);
            x.power(1, mask);
            Bytes before = wholeFlash(x);
            Due.is("TIME's page", line.sendTime(1, 500), DOWN);
            isAsBefore("mask " + mask + ", a record", x, before);
            x.boot();
            Due.is("READY", line.load(2, 64, 5), 0);
            before = wholeFlash(x);
            x.power(0, mask);
            Due.is("TRIED", x.boot(), DOWN);
            isAsBefore("mask " + mask + ", a STATE", x, before);
            Due.is("READY still", x.told(6), 2);
        }
        for (int n = 0; n < 2; n++) {
            Line line = new Line(40);
            Device x = line.x;
            x.image(2, 64, 5);
            line.toPieces(1);
            Bytes before = wholeFlash(x);
            x.power(n, -1);
            x.piece(2, 0);
            Due.is("PIECE 0", x.answer(), DOWN);
            for (int i = 0; i < 32 * n; i++) {
                before.all.set(18 * 128 + i, Bytes.program(64, 5).all.get(i));
            }
            isAsBefore("page " + n + " of a PIECE", x, before);
        }
    }

    private static void isAsBefore(String what, Device x, Bytes before) {
        for (int number = 0; number < 26; number++) {
            before.part(128 * number, 128 * number + 128).isOnFlash(what, x, number, 0);
        }
    }

    /** A ROOT that takes TIME and LIST away does seven writings and erasings. */
    private static void nothingGoesOnWhenDown() {
        Due.promise(18, "Then it is DOWN (nothing RUNS, the clock is 0, no CUT is told any more): nothing goes on of what "
                + "was being done");
        for (int n = 0; n <= 7; n++) {
            Line line = new Line(40);
            Device x = line.x;
            Due.is("all are TRUSTED", line.toPieces(1), -19);
            x.plan(2, 8, 1);
            x.begin(10);
            int before = x.told(10) + x.told(11);
            x.power(n, -1);
            boolean fails = n < 7;
            Due.is("cut behind " + n, line.send(0, 2, 500, 0, 1), fails ? DOWN : 1);
            Due.is("writings and erasings", x.told(10) + x.told(11) - before, Math.min(n + 1, 7));
            int[] whats = {0, 1, 2, 12, 13, 14};
            int[] down = {1, 0, 0, -1, 0, 0};
            int[] up = {0, 1, 0, 0, 0, 10};
            for (int i = 0; i < whats.length; i++) {
                Due.is("told(" + whats[i] + ")", x.told(whats[i]), fails ? down[i] : up[i]);
            }
            Due.is("what is AWAITED", x.awaits(0), fails ? 0 : 1);
            Due.is("boot", x.boot(), 1);
            Due.is("a boot does not go on with it", x.told(10) + x.told(11) - before, Math.min(n + 1, 7));
            Due.is("nor is it AWAITED", x.awaits(0), 0);
        }
    }

    private static void numbersHaveTheHighestFirst() {
        Due.promise(8, "NUMBERS of more bytes have the highest first.");
        int[][] ends = {{0x0102, 0x03040506}, {255, 255}, {256, 256}, {65535, 65535}, {1, 65536}, {1, 0x7F000000}};
        for (int[] e : ends) {
            Device x = new Device(1);
            x.image(e[0], 0x0201, 5);
            x.draft(3, e[0], e[1]);
            x.show();
            long digest = Bytes.program(0x0201, 5).digest();
            Bytes body = new Bytes().ones(e[0] >> 8, e[0] & 255, e[1] >>> 24, e[1] >> 16 & 255, e[1] >> 8 & 255,
                    e[1] & 255, 1, e[0] >> 8, e[0] & 255, 2, 1);
            for (int i = 0; i < 8; i++) {
                body.ones((int) (digest >>> 56 - 8 * i) & 255);
            }
            new Bytes().ones(3, 0, 19).add(body).ones(0).isOnTape("VERSION " + e[0] + ", END " + e[1], x);
        }
    }

    private static void digestOfBytes() {
        Due.promise(24, "THE DIGEST of bytes (64 bits): h is 1,469,598,103,934,665,603; for each byte h = (h xor it) * "
                + "1,099,511,628,211, and then");
        int[] first = {0, 1, 127, 128, 254, 255};
        for (int b : first) {
            for (int size = 1; size <= 3; size++) {
                Device x = new Device(1);
                x.feed(b << 24 | 0xFF00, 0, 0, 0, 0);
                x.end(size);
                Due.is(size + " bytes, the first " + b, x.digest(), slowDigest(size, b, 0, 255));
            }
        }
        Due.is("no byte", new Device(1).digest(), slowDigest(0));
    }

    /** By numbers that do not wrap around by themselves. */
    private static long slowDigest(int size, int... bytes) {
        BigInteger all = BigInteger.ONE.shiftLeft(64);
        BigInteger h = new BigInteger("1469598103934665603");
        for (int i = 0; i < size; i++) {
            h = h.xor(BigInteger.valueOf(bytes[i])).multiply(new BigInteger("1099511628211")).mod(all);
            h = h.xor(h.shiftRight(29));
        }
        return h.longValue();
    }

    private static void factoryKeysOfRoot() {
        Due.promise(14, "at first the ROOT of the factory: VERSION 1, END 1,000; ROOT: keys 0, 1, 2, THRESHOLD 2");
        for (int a = 0; a < 16; a++) {
            for (int b = a; b < 16; b++) {
                Line line = new Line(1);
                line.x.begin(10);
                // One that is named twice signs once.
                Due.is("ROOT by " + a + " and " + b, line.send(0, 2, 500, a, b), a != b && b <= 2 ? 1 : -12);
            }
        }
        Line line = new Line(1);
        line.x.begin(10);
        Due.is("ROOT by all three", line.send(0, 2, 500, 0, 1, 2), 1);
    }

    private static void factoryKeysOfTheOthers() {
        Due.promise(14, "TIME: 3, 1; LIST: 4, 1; IMAGES: 5, 6, 2.");
        for (int key = 0; key < 16; key++) {
            Line line = new Line(1);
            line.toTime(10);
            line.prepare(1, 500);
            Due.is("TIME by " + key, line.send(1, 1, 500, key), key == 3 ? 3 : -12);
            line.x.stop();
            line.toTime(10);
            Due.is("TIME", line.sendTime(1, 500), 3);
            Due.is("LIST by " + key, line.send(2, 1, 500, key), key == 4 ? 4 : -12);
            for (int other = key; other < 16; other++) {
                Due.is("IMAGES by " + key + " and " + other, byImages(key, other), key == 5 && other == 6 ? -19 : -12);
            }
        }
        Due.promise(22, "(It is told as having no keys of its own.)");
        Due.is("its keys", new Device(1).trusted(0, 2, 0), 0);
    }

    private static int byImages(int key, int other) {
        Line line = new Line(1);
        line.toTime(10);
        line.prepare(1, 500);
        line.sendTime(1, 500);
        Due.is("LIST", line.sendList(1, 500), 4);
        return line.send(3, 1, 500, key, other);
    }

    private static void slots() {
        Due.promise(23, "SLOTS: 0 is sectors 10 to 17, 1 is 18 to 25, from their first byte on.");
        Line line = new Line(1024);
        Device x = line.x;
        isInSlot("the factory's", x, 10, Bytes.factoryProgram(1024));
        keepProgram(line, 2, 1024, 5);
        Due.is("slot 1", x.told(3), 1);
        isInSlot("in slot 1", x, 18, Bytes.program(1024, 5));
        isInSlot("slot 0 stays", x, 10, Bytes.factoryProgram(1024));
        Bytes state = sector(x, 9).part(0, 32);
        keepProgram(line, 3, 1024, 9);
        Due.is("slot 0", x.told(3), 0);
        isInSlot("in slot 0", x, 10, Bytes.program(1024, 9));
        isInSlot("slot 1 stays", x, 18, Bytes.program(1024, 5));
        state.isOnFlash("what is ahead of slot 0 stays", x, 9, 0);
        keepProgram(line, 4, 1, 7);
        Due.is("slot 1", x.told(3), 1);
        isInSlot("one byte in slot 1", x, 18, new Bytes().ones(7));
        isInSlot("slot 0 stays", x, 10, Bytes.program(1024, 9));
    }

    private static void keepProgram(Line line, int version, int length, int seed) {
        line.x.clear();
        Due.is("READY", line.load(version, length, seed), 0);
        Due.is("on trial", line.x.boot(), version);
        Due.is("kept", line.x.test(true), version);
    }

    private static void factoryBytes() {
        Due.promise(1, "The factory's program has n bytes: byte i is 7 i + 3, its lowest 8 bits.");
        // Byte 36 is 255, as what is erased; byte 37 is the first whose number is above 255.
        int[] lengths = {36, 37, 38, 1023, 1024};
        for (int n : lengths) {
            Device x = new Device(n);
            isInSlot("n " + n, x, 10, Bytes.factoryProgram(n));
            Due.is("byte 36", x.flash(10, 36), 255);
            Due.is("byte 37", x.flash(10, 37), n > 37 ? 6 : 255);
            Due.is("LENGTH", x.told(5), n);
            Due.is("boot", x.boot(), 1);
        }
    }

    private static void nothingRunsAtFirst() {
        Due.promise(21, "At first nothing RUNS.");
        Device x = new Device(40);
        Due.is("RUNS", x.told(1), 0);
        Due.is("on trial", x.told(2), 0);
        Due.is("DOWN", x.told(0), 0);
        int[] said = {x.begin(0), x.answer(), x.refuse(), x.test(true), x.test(false), x.stop()};
        for (int i = 0; i < said.length; i++) {
            Due.is("call " + i, said[i], i < 5 ? STATE : 0);
        }
        Due.is("boot", x.boot(), 1);
        Due.is("RUNS", x.told(1), 1);
    }

    private static void isState(Device x, int sector, int page, int number, int[] numbers, Bytes[] programs) {
        long staged = numbers[3] == 0 ? 0 : programs[1].digest();
        Bytes.state(number, numbers, programs[0].digest(), staged).isOnFlash("STATE " + number, x, sector, 32 * page);
        Due.is("it counts", x.told(9), number);
        for (int i = 0; i < numbers.length; i++) {
            Due.is("STATE " + number + ", told(" + (3 + i) + ")", x.told(3 + i), numbers[i]);
        }
    }

    private static void statesOfEachKind() {
        Due.promise(21, "Sectors 8 and 9 have STATES, each a page: a number (4, from 1 on); the CONFIRMED slot (1; 0 or "
                + "1), VERSION (2), LENGTH (2), DIGEST (8 bytes: its lowest 6 alone, 6); what is STAGED (1): 0 NOTHING, "
                + "1 LOADING, 2 READY, 3 TRIED; its VERSION (2), LENGTH (2), DIGEST's lowest 6 bytes (6); 2 bytes 0; the "
                + "CHECK of these 28 (4).");
        int[][] images = {{2, 1}, {255, 255}, {256, 256}, {65535, 1024}};
        for (int[] image : images) {
            int n = image[1];
            Bytes[] programs = {Bytes.factoryProgram(n), Bytes.program(n, 77)};
            Line line = new Line(n);
            Device x = line.x;
            isState(x, 8, 0, 1, new int[] {0, 1, n, 0, 0, 0}, programs);
            x.image(image[0], n, 77);
            Due.is("LOADING", line.toPieces(1), 5);
            isState(x, 8, 1, 2, new int[] {0, 1, n, 1, image[0], n}, programs);
            Due.is("READY", line.sendPieces(), 0);
            isState(x, 8, 2, 3, new int[] {0, 1, n, 2, image[0], n}, programs);
            Due.is("TRIED", x.boot(), image[0]);
            isState(x, 8, 3, 4, new int[] {0, 1, n, 3, image[0], n}, programs);
            Due.is("NOTHING", x.boot(), 1);
            isState(x, 9, 0, 5, new int[] {0, 1, n, 0, 0, 0}, programs);
        }
    }

    /** The first page of slot 0 is the one behind the STATES' sectors; a wrong PIECE puts a STATE there. */
    private static void bytesOfASlotAreNoState() {
        Due.promise(21, "Sectors 8 and 9 have STATES, each a page");
        Line line = new Line(40);
        Device x = line.x;
        keepProgram(line, 2, 64, 5);
        x.image(3, 64, 7);
        Due.is("LOADING into slot 0", line.toPieces(3), 5);
        int number = x.told(9);
        Bytes piece = Bytes.state(9999, new int[] {0, 77, 64, 2, 78, 64}, 5, 5).padTo(64);
        piece.feedTo(x);
        Due.is("a wrong program", x.answer(), -18);
        piece.isOnFlash("it is in slot 0", x, 10, 0);
        Due.is("it does not count", x.told(9), number + 1);
        Due.is("VERSION", x.told(4), 2);
        Due.is("boot", x.boot(), 2);
    }

    private static void testPassedIsConfirmed() {
        Due.promise(20, "passed: a STATE is written: CONFIRMED is what was STAGED, NOTHING; it RUNS on trial no more");
        Line line = new Line(40);
        Device x = line.x;
        keepProgram(line, 256, 1024, 5);
        Bytes[] programs = {Bytes.program(1024, 5), Bytes.program(1024, 5)};
        isState(x, 9, 0, 5, new int[] {1, 256, 1024, 0, 0, 0}, programs);
        Due.is("RUNS", x.told(1), 256);
        Due.is("on trial", x.told(2), 0);
        Due.is("an UPDATE may begin", x.begin(3), 1);
        x.boot();
        keepProgram(line, 65535, 1, 9);
        programs[0] = Bytes.program(1, 9);
        isState(x, 8, 0, 9, new int[] {0, 65535, 1, 0, 0, 0}, programs);
        Due.is("boot", x.boot(), 65535);
        Due.is("no test any more", x.test(false), STATE);
    }

    private static void testNotPassedIsNothing() {
        Due.promise(20, "Not passed: NOTHING is written, and nothing RUNS.");
        Line line = new Line(40);
        Device x = line.x;
        Due.is("READY", line.load(2, 70, 5), 0);
        Due.is("on trial", x.boot(), 2);
        Due.is("not passed", x.test(false), 0);
        isState(x, 9, 0, 5, new int[] {0, 1, 40, 0, 0, 0}, new Bytes[] {Bytes.factoryProgram(40), null});
        Due.is("RUNS", x.told(1), 0);
        Due.is("on trial", x.told(2), 0);
        isInSlot("its bytes stay", x, 18, Bytes.program(70, 5));
        Due.promise(13, "An UPDATE wants a program that RUNS, not on trial.");
        Due.is("nothing RUNS", x.begin(3), STATE);
        Due.is("boot", x.boot(), 1);
        Due.is("that image once more", line.toPieces(2), 5);
        Due.is("from PIECE 0 on", x.awaits(2), 0);
        isErased("its bytes go", x, 18, 25);
    }

    private static void bootLeavesDown() {
        Due.promise(19, "BOOT: the device is not DOWN, no UPDATE goes on.");
        Line line = new Line(40);
        Device x = line.x;
        Due.is("READY", line.load(2, 70, 5), 0);
        for (int i = 0; i < 3; i++) {
            x.power(0, 0);
            Due.is("power fails in boot " + i, x.boot(), DOWN);
            Due.is("DOWN", x.told(0), 1);
            Due.is("READY still", x.told(6), 2);
        }
        Due.is("boot", x.boot(), 2);
        Due.is("DOWN no more", x.told(0), 0);
        Due.is("and what was on trial once is so no more", x.boot(), 1);
        x.begin(7);
        Due.is("boot in an UPDATE", x.boot(), 1);
        Due.is("none goes on", x.awaits(0), 0);
        Due.is("the clock", x.told(14), 0);
        Due.is("another may begin", x.begin(8), 1);
    }

    private static void whatRuns() {
        Due.promise(21, "0 whether it is DOWN, 1 the VERSION that RUNS (0), 2 whether on trial, 3 the CONFIRMED slot");
        Line line = new Line(40);
        Device x = line.x;
        line.isTold("RUNS", 0, 1, 0, 0, 1);
        line.load(2, 70, 5);
        line.isTold("READY", 0, 1, 0, 0, 1);
        x.boot();
        line.isTold("on trial", 0, 2, 1, 0, 1);
        x.test(true);
        line.isTold("CONFIRMED", 0, 2, 0, 1, 2);
        x.begin(10);
        x.power(0, -1);
        Due.is("cut", line.send(0, 2, 500, 0, 1), DOWN);
        line.isTold("DOWN", 1, 0, 0, 1, 2);
        Due.is("boot", x.boot(), 2);
        line.isTold("RUNS again", 0, 2, 0, 1, 2);
    }
}
