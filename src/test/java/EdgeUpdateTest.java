import java.util.function.Consumer;
import java.util.function.ToIntFunction;

/** The boundaries of promises 13 to 17: when an UPDATE may begin, go on and be given up, and what an ERROR leaves. */
public final class EdgeUpdateTest {
    private static final int BAD = FlashTrust.BAD, DOWN = FlashTrust.DOWN, STATE = FlashTrust.STATE;
    private static final int LEAST = Integer.MIN_VALUE, MOST = Integer.MAX_VALUE;

    public static void main(String[] args) {
        beginClocks();
        beginWantsAProgramThatRuns();
        beginWhileOneGoesOn();
        beginWhenDown();
        answerEmptiesTheTape();
        answerOfNothingAwaited();
        answerWhenDown();
        answerWhenPowerFails();
        errorsEndIt();
        wrongProgramEndsIt();
        wrongProgramIsCut();
        refusals();
        refuseOfNothingAwaited();
        awaitsNumbers();
        awaitsVersions();
        stops();
        Due.close("EdgeUpdateTest");
    }

    private static Line withImage(int length) {
        Line line = new Line(40);
        line.x.image(2, length, 5);
        return line;
    }

    private static void isIdle(String what, Device x) {
        for (int i = 0; i <= 2; i++) {
            Due.is(what + ", awaits(" + i + ")", x.awaits(i), 0);
        }
        Due.is(what + ", the clock", x.told(14), 0);
    }

    private static void beginClocks() {
        Due.promise(13, "An UPDATE begins: what it AWAITS. BAD: the clock is below 0");
        int[] wrong = {LEAST, LEAST + 1, -1000, -1};
        for (int clock : wrong) {
            Device x = new Line(40).x;
            Due.is("begin(" + clock + ")", x.begin(clock), BAD);
            isIdle("begin(" + clock + ")", x);
        }
        int[] good = {0, 1, 999, 1000, MOST - 1, MOST};
        for (int clock : good) {
            Device x = new Line(40).x;
            Due.is("begin(" + clock + ")", x.begin(clock), 1);
            Due.is("the clock", x.told(14), clock);
            Due.is("a ROOT", x.awaits(0), 1);
        }
    }

    private static void beginWantsAProgramThatRuns() {
        Due.promise(13, "STATE: one goes on, or no program RUNS, or on trial.");
        Device x = new Device(40);
        Due.is("nothing RUNS at first", x.begin(0), STATE);
        isIdle("nothing RUNS", x);
        Due.is("BAD ahead of STATE", x.begin(-1), BAD);
        x.boot();
        Due.is("a program RUNS", x.begin(0), 1);
        for (int passed = 0; passed < 2; passed++) {
            Line line = withImage(70);
            line.toPieces(1);
            line.sendPieces();
            x = line.x;
            Due.is("READY is not on trial", x.begin(3), 1);
            Due.is("boot", x.boot(), 2);
            Due.is("on trial", x.begin(0), STATE);
            isIdle("on trial", x);
            Due.is("BAD ahead of it", x.begin(-1), BAD);
            x.test(passed == 1);
            Due.is("behind the test", x.begin(0), passed == 1 ? 1 : STATE);
            x.boot();
            Due.is("behind a boot", x.begin(0), 1);
        }
    }

    private static void beginWhileOneGoesOn() {
        Due.promise(13, "STATE: one goes on");
        Device x = new Line(40).x;
        x.begin(7);
        Due.is("one goes on", x.begin(8), STATE);
        Due.is("its clock stays", x.told(14), 7);
        Due.is("BAD ahead of it", x.begin(-1), BAD);
        x.refuse();
        Due.is("one goes on", x.begin(8), STATE);
        Due.is("it AWAITS what it did", x.awaits(0), 2);
        x.refuse();
        Due.is("its ERROR", x.told(13), 6);
        Due.is("a clock below 0", x.begin(-1), BAD);
        Due.is("leaves the ERROR", x.told(13), 6);
        Due.is("it ended", x.begin(8), 1);
        Due.is("no ERROR", x.told(13), 0);
        Due.is("its clock", x.told(14), 8);
    }

    /** Power fails in the first erasing of an UPDATE; TIME was on its way. */
    private static Line down() {
        Line line = new Line(40);
        line.toTime(9);
        line.x.power(0, -1);
        Due.is("power fails", line.sendTime(1, 500), DOWN);
        return line;
    }

    private static void beginWhenDown() {
        Due.promise(13, "BAD: the clock is below 0; DOWN; STATE");
        Device x = down().x;
        Due.is("begin(0)", x.begin(0), DOWN);
        Due.is("begin(-1)", x.begin(-1), BAD);
        isIdle("DOWN", x);
        x.boot();
        Due.is("behind a boot", x.begin(0), 1);
    }

    private static void answerEmptiesTheTape() {
        Due.promise(14, "The tape, which is empty then, is an ANSWER: what is AWAITED then; - 10 less an ERROR");
        int[] next = {1, 3, 4, 5, 5, 0};
        for (int awaited = 1; awaited <= 6; awaited++) {
            Line line = upTo(awaited);
            Due.is("what " + awaited + " wants", send(line, awaited), next[awaited - 1]);
            Due.is("what is AWAITED", line.x.awaits(0), next[awaited - 1]);
            isEmpty(line.x);
            line = upTo(awaited);
            for (int i = 0; i < 15; i++) {
                line.x.feed(i, 0, 0, 0, 0);
            }
            Due.is("a full tape for " + awaited, line.x.answer(), awaited < 5 ? -11 : -17);
            isEmpty(line.x);
            line = upTo(awaited);
            Due.is("an empty tape for " + awaited, line.x.answer(), awaited < 5 ? -11 : -17);
            isEmpty(line.x);
        }
    }

    private static void isEmpty(Device x) {
        Due.is("no byte", x.byteOf(0), BAD);
        Due.is("the DIGEST of none", x.digest(), 1469598103934665603L);
        Due.is("feed", x.feed(1, 2, 3, 4, 5), 20);
    }

    private static void answerOfNothingAwaited() {
        Due.promise(14, "STATE: nothing is AWAITED (the tape stays with both).");
        Device x = new Device(40);
        x.feed(1, 2, 3, 4, 5);
        stays("nothing RUNS", x, x.answer(), STATE);
        x.boot();
        stays("no UPDATE", x, x.answer(), STATE);
        x.begin(5);
        x.stop();
        stays("given up", x, x.answer(), STATE);
        x.begin(5);
        x.refuse();
        x.refuse();
        stays("behind an ERROR", x, x.answer(), STATE);
        Line line = withImage(70);
        line.toPieces(1);
        Due.is("READY", line.sendPieces(), 0);
        line.x.feed(1, 2, 3, 4, 5);
        stays("done", line.x, line.x.answer(), STATE);
        line.x.boot();
        stays("on trial", line.x, line.x.answer(), STATE);
    }

    private static void stays(String what, Device x, int said, int want) {
        Due.is(what, said, want);
        new Bytes().num(1, 4).num(2, 4).num(3, 4).num(4, 4).num(5, 4).isOnTape(what + ", the tape", x);
    }

    private static void answerWhenDown() {
        Due.promise(14, "DOWN before; STATE: nothing is AWAITED (the tape stays with both).");
        Device x = down().x;
        x.feed(1, 2, 3, 4, 5);
        stays("DOWN before", x, x.answer(), DOWN);
    }

    /** Power fails in the first thing that is done with a ROOT, TIME, LIST, IMAGES and two PIECES. */
    private static void answerWhenPowerFails() {
        Due.promise(14, "DOWN when power fails (the tape is empty, too).");
        for (int awaited = 1; awaited <= 6; awaited++) {
            Line line = upTo(awaited);
            Device x = line.x;
            x.power(0, 0);
            Due.is("power fails in " + awaited, send(line, awaited), DOWN);
            Due.is("the tape is empty", x.byteOf(0), BAD);
            isIdle("DOWN", x);
            Due.is("DOWN", x.told(0), 1);
            Due.is("nothing RUNS", x.told(1), 0);
            Due.is("no CUT is told", x.told(12), -1);
            Due.is("no ERROR", x.told(13), 0);
        }
    }

    /** An UPDATE that AWAITS a ROOT (1), TIME, LIST, IMAGES, PIECE 0 or PIECE 1 (6); the tape is empty. */
    private static Line upTo(int awaited) {
        Line line = withImage(70);
        line.x.begin(10);
        line.prepare(1, 500);
        for (int step = 1; step < awaited; step++) {
            int said = step == 1 ? line.x.refuse() : send(line, step);
            Due.is("step " + step, said, Math.min(step + 1, 5));
        }
        Bytes.emptyTape(line.x);
        return line;
    }

    private static int send(Line line, int awaited) {
        if (awaited < 5) {
            int[][] keys = {{0, 1}, {3}, {4}, {5, 6}};
            return line.send(awaited - 1, awaited == 1 ? 2 : 1, 500, keys[awaited - 1]);
        }
        line.x.piece(2, awaited - 5);
        return line.x.answer();
    }

    /** The ERRORS 1 to 7, 9 and 10 write nothing. */
    private static void errorsEndIt() {
        Due.promise(14, "ERRORS end it (it AWAITS nothing), but change nothing else");
        endsIt(1, line -> line.toTime(10), line -> line.send(2, 1, 500, 4));
        endsIt(1, line -> line.x.begin(10), line -> line.x.answer());
        endsIt(2, line -> line.x.begin(10), line -> line.send(0, 2, 500, 0));
        endsIt(2, line -> line.toTime(10), line -> line.send(1, 1, 500, 4));
        endsIt(3, line -> line.x.begin(10), line -> line.send(0, 3, 500, 0, 1));
        endsIt(4, line -> line.x.begin(1000), line -> line.x.refuse());
        endsIt(4, line -> line.toTime(10), line -> line.send(1, 1, 10, 3));
        endsIt(5, EdgeUpdateTest::toList, line -> line.send(2, 1, 501, 4));
        endsIt(6, line -> line.toTime(10), line -> line.x.refuse());
        endsIt(7, line -> line.toPieces(1), line -> line.x.answer());
        endsIt(9, line -> trustAll(line, 1), line -> line.sendTime(1, 500));
        endsIt(10, line -> trustAll(line, 2), EdgeUpdateTest::sendOlder);
    }

    private static void toList(Line line) {
        line.prepare(1, 500);
        line.toTime(10);
        line.sendTime(1, 500);
    }

    /** LIST and IMAGES are of one VERSION more than 1; the last image is of VERSION 1. */
    private static void trustAll(Line line, int version) {
        line.x.clear();
        line.x.image(1, 50, 5);
        Due.is("nothing newer", line.toPieces(version), -19);
        line.toTime(10);
        line.prepare(version, 500);
    }

    private static int sendOlder(Line line) {
        line.x.draft(2, 1, 500);
        return line.sendTime(2, 500);
    }

    private static void endsIt(int error, Consumer<Line> prepare, ToIntFunction<Line> act) {
        Line line = withImage(70);
        Device x = line.x;
        prepare.accept(line);
        Due.is("no ERROR before", x.told(13), 0);
        Due.holds("it goes on before", x.awaits(0) > 0);
        long before = Picture.of(x);
        Due.is("ERROR " + error, act.applyAsInt(line), -10 - error);
        Due.is("nothing else is changed by " + error, Picture.of(x), before);
        Due.is("the last ERROR", x.told(13), error);
        isIdle("behind " + error, x);
        Due.is("a program RUNS", x.told(1), 1);
        Due.is("nothing is AWAITED", x.answer(), STATE);
        Due.is("nor given up", x.stop(), 0);
        Due.is("the last ERROR stays", x.told(13), error);
        Due.is("another UPDATE", x.begin(10), 1);
        Due.is("no ERROR", x.told(13), 0);
    }

    private static void wrongProgramEndsIt() {
        Due.promise(14, "else the STATE NOTHING (0s for what is STAGED), error 8");
        Line line = withImage(64);
        Device x = line.x;
        line.toPieces(1);
        x.piece(2, 0);
        x.spoil(63, 1);
        Due.is("ERROR 8", x.answer(), -18);
        Due.is("the last ERROR", x.told(13), 8);
        isIdle("behind 8", x);
        line.isTold("NOTHING", 0, 1, 0, 0, 1, 40, 0, 0, 0, 3);
        Bytes.state(3, new int[] {0, 1, 40, 0, 0, 0}, Bytes.factoryProgram(40).digest(), 0)
                .isOnFlash("0s for what is STAGED", x, 8, 64);
    }

    /** A page of the PIECE, then the STATE NOTHING; power fails in the one, in the other, or behind both. */
    private static void wrongProgramIsCut() {
        Due.promise(14, "nothing goes on of what was being done");
        for (int n = 0; n <= 2; n++) {
            Line line = withImage(32);
            Device x = line.x;
            line.toPieces(1);
            x.piece(2, 0);
            x.spoil(31, 1);
            x.power(n, -1);
            Due.is("ERROR 8 with " + n, x.answer(), n < 2 ? DOWN : -18);
            Due.is("the last ERROR", x.told(13), n < 2 ? 0 : 8);
            Due.is("STAGED", x.told(6), n < 2 ? 1 : 0);
            isIdle("behind it", x);
            Due.is("the tape is empty", x.byteOf(0), BAD);
            Due.is("boot", x.boot(), 1);
            Due.is("the last ERROR stays", x.told(13), n < 2 ? 0 : 8);
        }
    }

    private static void refusals() {
        Due.promise(15, "A REFUSAL: likewise (6, but of a ROOT).");
        for (int awaited = 1; awaited <= 6; awaited++) {
            Line line = upTo(awaited);
            Device x = line.x;
            x.feed(1, 2, 3, 4, 5);
            long before = Picture.of(x);
            Due.is("refused at " + awaited, x.refuse(), awaited == 1 ? 2 : -16);
            Due.is("nothing else is changed", Picture.of(x), before);
            Due.is("the ERROR", x.told(13), awaited == 1 ? 0 : 6);
            Due.is("what is AWAITED", x.awaits(0), awaited == 1 ? 2 : 0);
            Due.is("the clock", x.told(14), awaited == 1 ? 10 : 0);
            Due.is("a REFUSAL is not the tape", x.byteOf(19), 5);
        }
    }

    private static void refuseOfNothingAwaited() {
        Due.promise(15, "A REFUSAL: likewise");
        Device x = new Device(40);
        Due.is("nothing RUNS", x.refuse(), STATE);
        x.boot();
        Due.is("no UPDATE", x.refuse(), STATE);
        x.begin(5);
        x.stop();
        Due.is("given up", x.refuse(), STATE);
        x.begin(5);
        x.answer();
        Due.is("behind an ERROR", x.refuse(), STATE);
        Due.is("which stays", x.told(13), 1);
        x = down().x;
        Due.is("DOWN", x.refuse(), DOWN);
        x.boot();
        Due.is("behind a boot", x.refuse(), STATE);
    }

    private static void awaitsNumbers() {
        Due.promise(16, "BAD: another number. (0 without an UPDATE.)");
        Device x = new Device(40);
        int[] wrong = {LEAST, -1, 3, 4, 5, MOST};
        for (int round = 0; round < 3; round++) {
            for (int what : wrong) {
                Due.is("awaits(" + what + ")", x.awaits(what), BAD);
            }
            if (round < 2) {
                isIdle("without an UPDATE", x);
            }
            x.boot();
            if (round == 1) {
                x.begin(3);
            }
        }
        isIdle("boot gave it up", x);
        isIdle("DOWN", down().x);
        x = down().x;
        Due.is("awaits(3) when DOWN", x.awaits(3), BAD);
    }

    private static void awaitsVersions() {
        Due.promise(16, "What is AWAITED: 0 that, 1 the VERSION wanted (of a ROOT, LIST, IMAGES; of a PIECE that of its "
                + "image; 0 else), 2 the PIECE (0 else)");
        Line line = new Line(40);
        Device x = line.x;
        x.image(65535, 1024, 5);
        x.begin(10);
        awaits(x, 1, 2, 0);
        line.send(0, 2, 500, 0, 1);
        awaits(x, 1, 3, 0);
        x.refuse();
        awaits(x, 2, 0, 0);
        line.offer(3, 1, 500, 5, 6);
        line.offer(2, 65535, 500, 4);
        line.sendTime(9, 500);
        awaits(x, 3, 65535, 0);
        line.sendList(65535, 500);
        awaits(x, 4, 1, 0);
        line.sendImages(1, 500);
        for (int k = 0; k < 16; k++) {
            awaits(x, 5, 65535, k);
            x.piece(65535, k);
            x.answer();
        }
        isIdle("done", x);
        Due.is("the greatest VERSION RUNS", x.boot(), 65535);
        Due.is("and is kept", x.test(true), 65535);
    }

    private static void awaits(Device x, int what, int version, int piece) {
        Due.is("awaits(0)", x.awaits(0), what);
        Due.is("awaits(1) at " + what, x.awaits(1), version);
        Due.is("awaits(2) at " + what, x.awaits(2), piece);
    }

    private static void stops() {
        Due.promise(17, "The UPDATE is given up: 1; 0: there was none. DOWN.");
        Device x = new Device(40);
        Due.is("nothing RUNS", x.stop(), 0);
        x.boot();
        Due.is("no UPDATE", x.stop(), 0);
        for (int awaited = 1; awaited <= 6; awaited++) {
            x = upTo(awaited).x;
            long before = Picture.of(x);
            x.feed(1, 2, 3, 4, 5);
            Due.is("stop at " + awaited, x.stop(), 1);
            Due.is("once more", x.stop(), 0);
            isIdle("given up", x);
            Due.is("nothing else is changed", Picture.of(x), before);
            Due.is("no ERROR", x.told(13), 0);
            Due.is("the tape stays", x.byteOf(19), 5);
        }
        x = down().x;
        Due.is("DOWN", x.stop(), DOWN);
        x.boot();
        Due.is("behind a boot", x.stop(), 0);
    }
}
