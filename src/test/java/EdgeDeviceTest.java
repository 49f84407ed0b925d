/** The boundaries of promises 1 and 18 to 23: the factory's program, power, the loader, and what the device tells. */
public final class EdgeDeviceTest {
    private static final int BAD = FlashTrust.BAD, NONE = FlashTrust.NONE, DOWN = FlashTrust.DOWN,
            STATE = FlashTrust.STATE;
    private static final int LEAST = Integer.MIN_VALUE, MOST = Integer.MAX_VALUE;

    public static void main(String[] args) {
        factoryLengths();
        powerNumbers();
        powerWhenDown();
        powerToldAgain();
        powerJustEnough();
        powerOf500();
        powerMasks();
        downCalls();
        bootGivesUp();
        bootOfWhatIsStaged();
        bootWhenPowerFails();
        bootOfASlotThatIsNotAsTold();
        testWantsATrial();
        testPassedOrNot();
        testWhenPowerFails();
        toldNumbers();
        toldCounts();
        toldLastError();
        trustedRoles();
        trustedOfTheFactory();
        trustedOfNone();
        trustedOfEach();
        flashPlaces();
        Due.close("EdgeDeviceTest");
    }

    private static Line ready(int length) {
        Line line = new Line(40);
        Due.is("READY", line.load(2, length, 5), 0);
        return line;
    }

    private static void factoryLengths() {
        Due.promise(1, "The factory's program has n bytes, 1 .. 1,024, others as the nearest.");
        int[] given = {LEAST, -1, 0, 1, 2, 3, 127, 128, 129, 1022, 1023, 1024, 1025, 1026, 65537, MOST};
        for (int n : given) {
            int length = n < 1 ? 1 : n > 1024 ? 1024 : n;
            Device x = new Device(n);
            Due.is(n + ", LENGTH", x.told(5), length);
            int last = length - 1;
            Due.is(n + ", its first byte", x.flash(10, 0), 3);
            Due.is(n + ", its last byte", x.flash(10 + last / 128, last % 128), 7 * last + 3 & 255);
            if (length < 1024) {
                Due.is(n + ", the byte behind", x.flash(10 + length / 128, length % 128), 255);
            }
            Due.is(n + ", the other slot", x.flash(18, 0), 255);
            Due.is(n + ", boot", x.boot(), 1);
        }
    }

    private static void powerNumbers() {
        Due.promise(18, "Power fails behind n (0 .. 500) more writings and erasings, with a mask; n = - 1: it does not: "
                + "1. BAD: another n.");
        Device x = new Device(40);
        int[] wrong = {LEAST, -501, -3, -2, 501, 502, 1000, MOST};
        int[] good = {-1, 0, 1, 2, 499, 500};
        for (int before : good) {
            Due.is("power(" + before + ")", x.power(before, 7), 1);
            Due.is("those left", x.told(12), before);
            for (int n : wrong) {
                Due.is("power(" + n + ")", x.power(n, 9), BAD);
                Due.is("changes nothing", x.told(12), before);
            }
        }
        Due.is("it is not DOWN", x.told(0), 0);
    }

    private static Line down() {
        Line line = new Line(40);
        line.toTime(9);
        line.x.power(0, -1);
        Due.is("power fails", line.sendTime(1, 500), DOWN);
        return line;
    }

    private static void powerWhenDown() {
        Due.promise(18, "(Also when DOWN.)");
        int[] good = {-1, 0, 500};
        for (int n : good) {
            Line line = down();
            Device x = line.x;
            Due.is("none is told", x.told(12), -1);
            Due.is("power(-2)", x.power(-2, 0), BAD);
            Due.is("power(501)", x.power(501, 0), BAD);
            Due.is("none is told", x.told(12), -1);
            Due.is("power(" + n + ")", x.power(n, 0), 1);
            Due.is("those left", x.told(12), n);
            Due.is("DOWN still", x.told(0), 1);
            Due.is("boot", x.boot(), 1);
            Due.is("it stays told", x.told(12), n);
            line.toTime(9);
            Due.is("the next", line.sendTime(1, 500), n == 0 ? DOWN : 3);
        }
    }

    private static void powerToldAgain() {
        Due.promise(18, "n = - 1: it does not");
        Line line = new Line(40);
        line.x.power(0, 0);
        line.x.power(-1, 0);
        line.toTime(9);
        Due.is("it does not", line.sendTime(1, 500), 3);
        line.x.stop();
        line.x.power(0, 0);
        line.x.power(2, 0);
        line.toTime(9);
        Due.is("the last one is told", line.sendTime(2, 500), 3);
        Due.is("none is left", line.x.told(12), 0);
        line.x.power(501, 0);
        Due.is("LIST, when none is left", line.sendList(1, 500), -15);
        line.toTime(9);
        Due.is("TIME, when none is left", line.sendTime(3, 500), DOWN);
        Due.is("none is told any more", line.x.told(12), -1);
    }

    /** TIME takes an erasing and a writing. */
    private static void powerJustEnough() {
        Due.promise(18, "A CUT is told ahead: so many writings and erasings more are done, the one behind them is not, and "
                + "power fails");
        for (int n = 0; n <= 3; n++) {
            Line line = new Line(40);
            line.toTime(9);
            line.x.power(n, 0);
            Due.is("TIME with " + n, line.sendTime(1, 500), n < 2 ? DOWN : 3);
            Due.is("those left", line.x.told(12), n < 2 ? -1 : n - 2);
            Due.is("DOWN", line.x.told(0), n < 2 ? 1 : 0);
            Due.is("erasings", line.x.told(11), 1);
            Due.is("writings", line.x.told(10), n < 1 ? 0 : 1);
            Due.is("TRUSTED", line.x.trusted(1, 0, 0), n < 2 ? NONE : 1);
            Due.is("the page", line.x.flash(2, 3), n < 2 ? 255 : 1);
        }
    }

    /** Once all is TRUSTED, a program of 1,024 bytes that is wrong takes 8 erasings and 34 writings. */
    private static void powerOf500() {
        Due.promise(18, "Power fails behind n (0 .. 500) more writings and erasings");
        Line line = new Line(40);
        Device x = line.x;
        x.image(2, 1024, 5);
        line.toPieces(1);
        x.stop();
        int before = x.told(10) + x.told(11);
        x.power(500, 0);
        x.draft(1, 1, 500);
        x.sign(3);
        int said = 0;
        for (int round = 0; round < 12 && said != DOWN; round++) {
            line.toTime(10);
            x.show();
            said = x.answer();
            for (int k = 0; k < 16 && said == 5; k++) {
                x.piece(2, k);
                if (k == 0) {
                    x.spoil(0, 1);
                }
                said = x.answer();
            }
        }
        Due.is("power fails", said, DOWN);
        Due.is("writings and erasings, the cut one too", x.told(10) + x.told(11) - before, 501);
        Due.is("none is told any more", x.told(12), -1);
    }

    private static void powerMasks() {
        Due.promise(18, "of an erasing bit k of the sector (of byte b bit j, the lowest 0, is 8 b + j) stays as it is, "
                + "if bit k mod 32 of a mask is set; the others become 1");
        int[] masks = {0, 1, 2, 128, 256, 0x8000, 1 << 16, 1 << 24, 1 << 30, LEAST, MOST, -1, -2};
        for (int mask : masks) {
            Line line = new Line(40);
            Device x = line.x;
            line.toTime(9);
            line.sendTime(1, 500);
            x.stop();
            line.toTime(9);
            line.sendTime(2, 500);
            x.stop();
            Bytes before = new Bytes();
            for (int i = 0; i < 128; i++) {
                before.ones(x.flash(2, i));
            }
            line.toTime(9);
            x.power(0, 12345);
            x.power(0, mask);
            Due.is("cut", line.sendTime(3, 500), DOWN);
            for (int i = 0; i < 128; i++) {
                int staying = mask >>> 8 * (i % 4) & 255;
                Due.is("mask " + mask + ", byte " + i, x.flash(2, i), before.all.get(i) | 255 - staying);
            }
        }
    }

    private static void downCalls() {
        Due.promise(17, "but boot(), and what only tells, all calls of the device answer DOWN");
        Device x = down().x;
        long before = Picture.of(x);
        int[] said = {x.begin(0), x.answer(), x.refuse(), x.stop(), x.test(true), x.test(false)};
        for (int i = 0; i < said.length; i++) {
            Due.is("call " + i, said[i], DOWN);
        }
        Due.is("nothing is changed", Picture.of(x), before);
        Due.is("told(0)", x.told(0), 1);
        Due.is("nothing RUNS", x.told(1), 0);
        Due.is("the clock", x.told(14), 0);
        Due.is("awaits(0)", x.awaits(0), 0);
        Due.is("trusted", x.trusted(0, 0, 0), 1);
        Due.is("flash", x.flash(10, 0), 3);
        Due.is("the other side goes on", x.image(2, 64, 5), 1);
        Due.is("feed", x.feed(1, 2, 3, 4, 5), 20);
        Due.is("digest", x.digest(), new Bytes().num(1, 4).num(2, 4).num(3, 4).num(4, 4).num(5, 4).digest());
        Due.is("boot", x.boot(), 1);
        Due.is("told(0)", x.told(0), 0);
        Due.is("stop", x.stop(), 0);
    }

    private static void bootGivesUp() {
        Due.promise(19, "The device is switched off and on (an UPDATE is given up; what power() told stays told)");
        Line line = new Line(40);
        Device x = line.x;
        x.image(2, 200, 5);
        line.toPieces(1);
        x.piece(2, 0);
        x.answer();
        x.piece(2, 1);
        x.power(77, 5);
        long before = Picture.of(x);
        Due.is("boot", x.boot(), 1);
        Due.is("nothing is changed", Picture.of(x), before);
        Due.is("nothing is AWAITED", x.awaits(0), 0);
        Due.is("no PIECE", x.awaits(2), 0);
        Due.is("no clock", x.told(14), 0);
        Due.is("it stays told", x.told(12), 77);
        Due.is("LOADING stays", x.told(6), 1);
        Due.is("the tape stays", x.byteOf(63), Bytes.program(200, 5).all.get(127));
        Due.is("nothing goes on", x.answer(), STATE);
    }

    private static void bootOfWhatIsStaged() {
        Due.promise(19, "If READY: a STATE TRIED is written");
        Line line = new Line(40);
        Device x = line.x;
        isBoot("NOTHING", line, 1, 0, 1, 0);
        x.image(2, 130, 5);
        line.toPieces(1);
        isBoot("LOADING", line, 1, 0, 2, 1);
        line.toPieces(1);
        line.sendPieces();
        isBoot("READY", line, 2, 1, 4, 3);
        Due.promise(19, "If TRIED: NOTHING is written. Then, and else, the CONFIRMED program RUNS.");
        isBoot("TRIED", line, 1, 0, 5, 0);
        isBoot("NOTHING again", line, 1, 0, 5, 0);
        Due.is("VERSION of NOTHING", x.told(7), 0);
        Due.is("LENGTH of NOTHING", x.told(8), 0);
    }

    private static void isBoot(String what, Line line, int runs, int onTrial, int number, int staged) {
        Due.is(what + ", boot", line.x.boot(), runs);
        Due.is(what + ", RUNS", line.x.told(1), runs);
        Due.is(what + ", on trial", line.x.told(2), onTrial);
        Due.is(what + ", the STATE", line.x.told(9), number);
        Due.is(what + ", STAGED", line.x.told(6), staged);
    }

    private static void bootWhenPowerFails() {
        Due.promise(19, "(If power fails in it, it is DOWN, nothing RUNS.)");
        for (int n = 0; n <= 1; n++) {
            Line line = ready(130);
            Device x = line.x;
            x.power(n, 0);
            Due.is("READY with " + n, x.boot(), n < 1 ? DOWN : 2);
            Due.is("DOWN", x.told(0), n < 1 ? 1 : 0);
            Due.is("RUNS", x.told(1), n < 1 ? 0 : 2);
            Due.is("on trial", x.told(2), n < 1 ? 0 : 1);
            Due.is("STAGED", x.told(6), n < 1 ? 2 : 3);
            Due.is("boot again", x.boot(), n < 1 ? 2 : DOWN);
        }
        // The STATE NOTHING, number 5, takes an erasing and a writing.
        for (int n = 0; n <= 2; n++) {
            Line line = ready(130);
            Device x = line.x;
            x.boot();
            x.power(n, 0);
            Due.is("TRIED with " + n, x.boot(), n < 2 ? DOWN : 1);
            Due.is("RUNS", x.told(1), n < 2 ? 0 : 1);
            Due.is("on trial", x.told(2), 0);
            Due.is("STAGED", x.told(6), n < 2 ? 3 : 0);
            Due.is("boot again", x.boot(), 1);
            Due.is("NOTHING", x.told(6), 0);
        }
        Line line = new Line(40);
        line.x.power(0, 0);
        Due.is("NOTHING takes none", line.x.boot(), 1);
        Due.is("it stays told", line.x.told(12), 0);
    }

    /** READY, but power failed while its slot was erased for another image: behind TIME, LIST and IMAGES (7). */
    private static Line spoiled(int length, int cut, int mask) {
        Line line = ready(length);
        line.x.image(3, 70, 6);
        line.x.power(cut, mask);
        Due.is("cut", line.toPieces(2), DOWN);
        Due.is("READY still", line.x.told(6), 2);
        return line;
    }

    private static void bootOfASlotThatIsNotAsTold() {
        Due.promise(19, "if the slot's bytes have the DIGEST, that program RUNS, on trial; else a STATE NOTHING is "
                + "written, and as follows");
        Line line = spoiled(130, 7, -1);
        isBoot("all bits stayed", line, 2, 1, 4, 3);
        line = spoiled(130, 7, -2);
        isBoot("one bit of each four bytes went", line, 1, 0, 5, 0);
        Due.is("TRIED was written ahead", line.x.flash(8, 96 + 15), 3);
        Due.is("NOTHING in the other sector", line.x.flash(9, 3), 5);
        line = spoiled(128, 8, -1);
        isBoot("the first sector is erased", line, 1, 0, 5, 0);
        line = spoiled(130, 8, -1);
        isBoot("two bytes are left", line, 1, 0, 5, 0);
        // TRIED takes a writing, NOTHING an erasing and a writing.
        for (int n = 0; n <= 3; n++) {
            line = spoiled(130, 7, 0);
            line.x.power(n, 0);
            Due.is("boot with " + n, line.x.boot(), n < 3 ? DOWN : 1);
            Due.is("STAGED", line.x.told(6), n < 1 ? 2 : n < 3 ? 3 : 0);
            Due.is("RUNS", line.x.told(1), n < 3 ? 0 : 1);
            Due.is("boot again", line.x.boot(), 1);
        }
    }

    private static void testWantsATrial() {
        Due.promise(20, "DOWN; STATE: nothing RUNS on trial.");
        for (int kind = 0; kind < 2; kind++) {
            boolean passed = kind == 1;
            Device x = new Device(40);
            Due.is("nothing RUNS", x.test(passed), STATE);
            x.boot();
            Due.is("not on trial", x.test(passed), STATE);
            x.begin(3);
            Due.is("in an UPDATE", x.test(passed), STATE);
            Due.is("which goes on", x.awaits(0), 1);
            x = ready(70).x;
            Due.is("READY", x.test(passed), STATE);
            x.boot();
            Due.is("on trial", x.test(passed), passed ? 2 : 0);
            Due.is("no more", x.test(passed), STATE);
            Due.is("DOWN", down().x.test(passed), DOWN);
        }
    }

    private static void testPassedOrNot() {
        Due.promise(20, "A TEST: the VERSION that RUNS, 0 without.");
        Line line = ready(130);
        line.x.boot();
        Due.is("passed", line.x.test(true), 2);
        line.isTold("CONFIRMED", 0, 2, 0, 1, 2, 130, 0, 0, 0, 5);
        Due.is("boot", line.x.boot(), 2);
        line = ready(130);
        line.x.boot();
        Due.is("not passed", line.x.test(false), 0);
        line.isTold("nothing RUNS", 0, 0, 0, 0, 1, 40, 0, 0, 0, 5);
        Due.is("boot", line.x.boot(), 1);
    }

    /** Its STATE, number 5, takes an erasing and a writing. */
    private static void testWhenPowerFails() {
        Due.promise(20, "A TEST of a program that RUNS on trial");
        for (int n = 0; n <= 2; n++) {
            for (int kind = 0; kind < 2; kind++) {
                Line line = ready(130);
                Device x = line.x;
                x.boot();
                x.power(n, 0);
                int good = kind == 1 ? 2 : 0;
                Due.is("test with " + n, x.test(kind == 1), n < 2 ? DOWN : good);
                Due.is("RUNS", x.told(1), n < 2 ? 0 : good);
                Due.is("on trial", x.told(2), 0);
                Due.is("STAGED", x.told(6), n < 2 ? 3 : 0);
                Due.is("the STATE", x.told(9), n < 2 ? 4 : 5);
                Due.is("boot", x.boot(), n < 2 || kind == 0 ? 1 : 2);
            }
        }
    }

    private static void toldNumbers() {
        Due.promise(21, "14 the clock of the UPDATE (0 without). BAD: another number.");
        Device[] devices = {new Device(40), new Line(40).x, down().x};
        for (Device x : devices) {
            int[] wrong = {LEAST, -2, -1, 15, 16, 256, MOST};
            for (int what : wrong) {
                Due.is("told(" + what + ")", x.told(what), BAD);
            }
            for (int what = 0; what <= 14; what++) {
                Due.holds("told(" + what + ")", x.told(what) >= (what == 12 ? -1 : 0));
            }
        }
        Line line = new Line(40);
        line.isTold("the factory's", 0, 1, 0, 0, 1, 40, 0, 0, 0, 1, 0, 0, -1, 0, 0);
    }

    private static void toldCounts() {
        Due.promise(21, "10 writings, 11 erasings that were done (cut ones, too), 12 those that power() leaves "
                + "(- 1: none told)");
        for (int n = 0; n <= 3; n++) {
            Line line = new Line(40);
            line.x.begin(9);
            line.x.power(n, 0);
            // ROOT takes an erasing and two writings.
            Due.is("ROOT with " + n, line.send(0, 2, 500, 0, 1), n < 3 ? DOWN : 1);
            Due.is("writings", line.x.told(10), Math.min(n, 2));
            Due.is("erasings", line.x.told(11), 1);
            Due.is("those left", line.x.told(12), n < 3 ? -1 : 0);
            line.x.boot();
            Due.is("a boot does not change them", line.x.told(10) + line.x.told(11), 1 + Math.min(n, 2));
        }
    }

    private static void toldLastError() {
        Due.promise(21, "13 the last ERROR (0; begin() makes it 0)");
        Device x = new Device(40);
        Due.is("at first", x.told(13), 0);
        x.boot();
        x.begin(1000);
        Due.is("none yet", x.told(13), 0);
        x.refuse();
        Due.is("it ended", x.told(13), 4);
        x.boot();
        Due.is("behind a boot", x.told(13), 4);
        x.stop();
        Due.is("behind a stop", x.told(13), 4);
        x.begin(-1);
        Due.is("behind a begin that is none", x.told(13), 4);
        x.begin(0);
        Due.is("begin() makes it 0", x.told(13), 0);
        x.answer();
        Due.is("another", x.told(13), 1);
    }

    private static void trustedRoles() {
        Due.promise(22, "BAD: none such.");
        Device[] devices = {new Device(40), ready(70).x, down().x};
        int[] wrong = {LEAST, -2, -1, 4, 5, 256, MOST};
        for (Device x : devices) {
            for (int role : wrong) {
                for (int what = -1; what <= 10; what++) {
                    Due.is("trusted(" + role + ", " + what + ", 0)", x.trusted(role, what, 0), BAD);
                }
            }
            int[] none = {LEAST, -1, 10, 11, MOST};
            for (int role = 0; role < 4; role++) {
                for (int what : none) {
                    Due.is("trusted(" + role + ", " + what + ", 0)", x.trusted(role, what, 0), BAD);
                }
            }
        }
    }

    private static void trustedOfTheFactory() {
        Due.promise(22, "2 its keys as bits (0 of the factory's), 3 the record's number (0), 4 (ROOT) keys of role k as "
                + "bits, 5 (ROOT) its THRESHOLD");
        Device x = new Device(40);
        int[] first = {1, 1000, 0, 0};
        for (int what = 0; what < 4; what++) {
            Due.is("trusted(0, " + what + ", 0)", x.trusted(0, what, 0), first[what]);
        }
        isRoot(x, new int[] {7, 8, 16, 96}, new int[] {2, 1, 1, 2});
    }

    private static void isRoot(Device x, int[] keys, int[] thresholds) {
        int[] places = {LEAST, -1, 0, 1, 2, 3, 4, 5, MOST};
        for (int k : places) {
            boolean isRole = k >= 0 && k < 4;
            Due.is("keys of role " + k, x.trusted(0, 4, k), isRole ? keys[k] : BAD);
            Due.is("THRESHOLD of role " + k, x.trusted(0, 5, k), isRole ? thresholds[k] : BAD);
            for (int what = 6; what <= 9; what++) {
                Due.is("ROOT has no " + what, x.trusted(0, what, k), BAD);
            }
        }
    }

    private static void trustedOfNone() {
        Due.promise(22, "Of the TRUSTED DOCUMENT of a role (without one: 0 NONE, 3 the number, all else BAD)");
        Device x = new Device(40);
        for (int role = 1; role < 4; role++) {
            for (int what = 0; what <= 9; what++) {
                int want = what == 0 ? NONE : what == 3 ? 0 : BAD;
                Due.is("trusted(" + role + ", " + what + ", 0)", x.trusted(role, what, 0), want);
            }
        }
        Line line = ready(70);
        line.x.plan(2, 0x18, 1);
        line.x.begin(10);
        line.send(0, 2, 500, 0, 1);
        for (int role = 1; role < 3; role++) {
            for (int what = 0; what <= 9; what++) {
                int want = what == 0 ? NONE : what == 3 ? 2 : BAD;
                Due.is("gone, trusted(" + role + ", " + what + ", 0)", line.x.trusted(role, what, 0), want);
            }
        }
    }

    private static void trustedOfEach() {
        Due.promise(22, "TIME, LIST: 6 the VERSION told; IMAGES: 7 how many, 8 VERSION of image k, 9 its LENGTH.");
        Line line = new Line(40);
        Device x = line.x;
        x.plan(0, 0x8001, 1);
        x.plan(3, 0x61, 3);
        x.begin(10);
        line.send(0, 2, Integer.MAX_VALUE, 0, 1, 15);
        isRoot(x, new int[] {0x8001, 8, 16, 0x61}, new int[] {1, 1, 1, 3});
        x.refuse();
        x.image(65534, 1, 5);
        x.image(65535, 1024, 5);
        x.draft(3, 65535, 500);
        x.draft(2, 65534, 600);
        Due.is("TIME", line.send(1, 7, 700, 3, 9), 3);
        Due.is("LIST", line.send(2, 65534, 600, 4), 4);
        Due.is("IMAGES", line.send(3, 65535, 500, 0, 5, 6), 5);
        int[][] wanted = {{2, Integer.MAX_VALUE, 0x8003, 1}, {7, 700, 0x208, 1, BAD, BAD, 65534, BAD, BAD, BAD},
            {65534, 600, 16, 1, BAD, BAD, 65535, BAD, BAD, BAD}, {65535, 500, 0x61, 1, BAD, BAD, BAD, 2, 65534, 1}};
        for (int role = 0; role < 4; role++) {
            for (int what = 0; what < wanted[role].length; what++) {
                Due.is("trusted(" + role + ", " + what + ", 0)", x.trusted(role, what, 0), wanted[role][what]);
            }
        }
        int[] outside = {LEAST, -1, 2, 3, 4, MOST};
        for (int k : outside) {
            Due.is("VERSION of image " + k, x.trusted(3, 8, k), BAD);
            Due.is("LENGTH of image " + k, x.trusted(3, 9, k), BAD);
        }
        Due.is("VERSION of image 1", x.trusted(3, 8, 1), 65535);
        Due.is("LENGTH of image 1", x.trusted(3, 9, 1), 1024);
    }

    private static void flashPlaces() {
        Due.promise(23, "Byte i of a sector, as it is. BAD: none such.");
        Device[] devices = {new Device(1024), down().x};
        int[] sectors = {LEAST, -26, -1, 26, 27, 1 << 25, MOST};
        int[] places = {LEAST, -128, -1, 128, 129, 256, MOST};
        for (Device x : devices) {
            for (int sector : sectors) {
                Due.is("flash(" + sector + ", 0)", x.flash(sector, 0), BAD);
                Due.is("flash(" + sector + ", 127)", x.flash(sector, 127), BAD);
            }
            for (int i : places) {
                Due.is("flash(0, " + i + ")", x.flash(0, i), BAD);
                Due.is("flash(8, " + i + ")", x.flash(8, i), BAD);
                Due.is("flash(25, " + i + ")", x.flash(25, i), BAD);
            }
            Due.is("the first sector, its last byte", x.flash(0, 127), 255);
            Due.is("the last sector, its first byte", x.flash(25, 0), 255);
            Due.is("the last sector, its last byte", x.flash(25, 127), 255);
            Due.is("the STATE's slot", x.flash(8, 4), 0);
        }
        Device x = devices[0];
        Due.is("the factory's first byte", x.flash(10, 0), 3);
        Due.is("its last byte", x.flash(17, 127), 7 * 1023 + 3 & 255);
        Due.is("ahead of it", x.flash(9, 127), 255);
        Due.is("behind it", x.flash(18, 0), 255);
    }
}
