/**
 * Promises 14, 19, 21 and 22: what the document says of records and STATES that no run of calls brings to flash, as far
 * as is seen (numbers above 2^31 - 1, like numbers, no STATE that counts, a written page ahead of an erased one). The
 * bytes are put there past the face, see Inside.
 */
public final class InsideTest {
    private static final int BAD = FlashTrust.BAD, NONE = FlashTrust.NONE;
    private static final long MOST_NUMBER = (1L << 31) - 1;
    private static final Bytes ERASED = new Bytes().padTo(128);

    public static void main(String[] args) {
        numbersOfRecords();
        greatNumbersInBothSectors();
        likeNumbersOfRecords();
        checkOfARecordFits();
        lengthsOfRecords();
        recordsOfNone();
        recordsOfAnotherRole();
        recordIsKeptBehindAGreatNumber();
        anyByteMakesAnotherBody();
        numbersOfStates();
        likeNumbersOfStates();
        bracketsOfStates();
        noStateCounts();
        noStateCountsAnyMore();
        statesBesideTheirSectors();
        firstStateBehindNone();
        firstStateBehindWrittenPages();
        stateBehindAWrittenPage();
        triedIsNeitherReadyNorLoading();
        endsOfGreatNumbers();
        Due.close("InsideTest");
    }

    private static Bytes record(long number, Bytes document) {
        return new Bytes().num(number, 4).num(document.size(), 2).add(document).check().padTo(128);
    }

    private static Bytes time(int version) {
        return Bytes.document(1, Bytes.told(version, 500, 1, 0), 3);
    }

    private static Bytes root(int version, long end) {
        Bytes body = new Bytes().num(version, 2).num(end, 4).ones(2, 3, 0, 1, 2, 1, 1, 3, 1, 1, 4, 2, 2, 5, 6);
        return Bytes.document(0, body, 0, 1);
    }

    private static void numbersOfRecords() {
        Due.promise(22, "The one whose CHECK fits, whose number is 1 .. 2^31 - 1, and that has a DOCUMENT of its role");
        long[] good = {1, 2, 255, 256, 65536, MOST_NUMBER - 1, MOST_NUMBER};
        long[] wrong = {0, MOST_NUMBER + 1, MOST_NUMBER + 2, 0xFFFFFFFEL, 0xFFFFFFFFL};
        for (int sector = 2; sector <= 3; sector++) {
            for (long number : good) {
                Device x = new Line(40).x;
                Inside.put(x, sector, 0, record(number, time(7)));
                Due.is("number " + number, x.trusted(1, 3, 0), number);
                Due.is("its VERSION", x.trusted(1, 0, 0), 7);
            }
            for (long number : wrong) {
                Device x = new Line(40).x;
                Inside.put(x, sector, 0, record(number, time(7)));
                Due.is("number " + number, x.trusted(1, 3, 0), 0);
                Due.is("none", x.trusted(1, 0, 0), NONE);
                Inside.put(x, 5 - sector, 0, record(4, time(6)));
                Due.is("the other one counts", x.trusted(1, 0, 0), 6);
                Due.is("its number", x.trusted(1, 3, 0), 4);
            }
        }
    }

    private static void greatNumbersInBothSectors() {
        Due.promise(22, "without one there is none (ROOT: the factory's)");
        long[] wrong = {0, MOST_NUMBER + 1, 0xFFFFFFFFL};
        for (long number : wrong) {
            Line line = new Line(40);
            for (int sector = 0; sector < 4; sector++) {
                Inside.put(line.x, sector, 0, record(number, sector < 2 ? root(7, 600) : time(7)));
            }
            Due.is("no number of TIME", line.x.trusted(1, 3, 0), 0);
            Due.is("no TIME", line.x.trusted(1, 0, 0), NONE);
            Due.is("no number of ROOT", line.x.trusted(0, 3, 0), 0);
            Due.is("the factory's ROOT", line.x.trusted(0, 0, 0), 1);
            line.toTime(10);
            Due.is("the first TIME", line.sendTime(1, 500), 3);
            record(1, time(1)).part(0, 6).isOnFlash("in the first sector", line.x, 2, 0);
        }
        Due.promise(22, "in each perhaps a record");
        Device x = new Line(40).x;
        Inside.put(x, 2, 0, record(5, time(7)));
        Inside.put(x, 2, 0, ERASED);
        Due.is("a record that went", x.trusted(1, 3, 0), 0);
        Due.is("none", x.trusted(1, 0, 0), NONE);
    }

    private static void likeNumbersOfRecords() {
        Due.promise(22, "of two the greater number (of like ones the first sector), counts");
        long[][] pairs = {{5, 5, 8}, {1, 1, 8}, {MOST_NUMBER, MOST_NUMBER, 8}, {5, 6, 9}, {6, 5, 8}, {1, MOST_NUMBER, 9},
            {255, 256, 9}, {MOST_NUMBER, MOST_NUMBER - 1, 8}};
        for (long[] pair : pairs) {
            Line line = new Line(40);
            Inside.put(line.x, 2, 0, record(pair[0], time(8)));
            Inside.put(line.x, 3, 0, record(pair[1], time(9)));
            Due.is("numbers " + pair[0] + ", " + pair[1], line.x.trusted(1, 0, 0), pair[2]);
            Due.is("its number", line.x.trusted(1, 3, 0), Math.max(pair[0], pair[1]));
        }
        Line line = new Line(40);
        Inside.put(line.x, 2, 0, record(5, time(8)));
        Inside.put(line.x, 3, 0, record(5, time(9)));
        line.toTime(10);
        Due.is("the next one", line.sendTime(10, 500), 3);
        Due.is("goes into the other sector", line.x.flash(3, 3), 6);
        Due.is("the first stays", line.x.flash(2, 3), 5);
    }

    private static void checkOfARecordFits() {
        Due.promise(22, "The one whose CHECK fits");
        Bytes good = record(5, time(8));
        int length = 6 + time(8).size() + 4;
        for (int i = 0; i < length; i++) {
            Bytes changed = good.part(0, 128);
            changed.all.set(i, changed.all.get(i) ^ 1);
            Device x = new Line(40).x;
            Inside.put(x, 2, 0, changed);
            Due.is("byte " + i + " is another", x.trusted(1, 0, 0), NONE);
        }
        Bytes changed = good.part(0, 128);
        for (int i = length; i < 128; i++) {
            changed.all.set(i, 0);
        }
        Device x = new Line(40).x;
        Inside.put(x, 2, 0, changed);
        Due.is("bytes behind it are no matter", x.trusted(1, 0, 0), 8);
    }

    /** A record's bytes end within its sector: of more than 118 no CHECK is there. */
    private static void lengthsOfRecords() {
        Due.promise(22, "a number (4, from 1 on), a length (2), so many bytes (the DOCUMENT; none: 0), the CHECK of all "
                + "this (4)");
        int[] lengths = {1, 9, 24, 25, 74, 75, 76, 117, 118, 119, 122, 123, 124, 255, 256, 32768, 65535};
        for (int length : lengths) {
            Bytes bytes = time(8);
            while (bytes.size() < Math.min(length, 240)) {
                bytes.ones(0);
            }
            bytes = bytes.part(0, Math.min(length, bytes.size()));
            Bytes all = new Bytes().num(5, 4).num(length, 2).add(bytes).check().padTo(256);
            Line line = new Line(40);
            Inside.put(line.x, 2, 0, all.part(0, 256));
            Due.is("length " + length, line.x.trusted(1, 0, 0), NONE);
            Due.is("its number", line.x.trusted(1, 3, 0), 0);
            line.toTime(10);
            Due.is("the first one", line.sendTime(1, 500), 3);
            Due.is("is number 1", line.x.trusted(1, 3, 0), 1);
        }
    }

    private static void recordsOfNone() {
        Due.promise(22, "and that has a DOCUMENT of its role (or, but for ROOT, none)");
        for (int role = 0; role < 4; role++) {
            Device x = new Line(40).x;
            Inside.put(x, 2 * role, 0, record(9, new Bytes()));
            Due.is("none of " + role, x.trusted(role, 3, 0), role == 0 ? 0 : 9);
            Due.is("VERSION", x.trusted(role, 0, 0), role == 0 ? 1 : NONE);
            Due.is("END", x.trusted(role, 1, 0), role == 0 ? 1000 : BAD);
        }
        Device x = new Line(40).x;
        Inside.put(x, 2, 0, record(8, time(5)));
        Inside.put(x, 3, 0, record(9, new Bytes()));
        Due.is("none of a greater number", x.trusted(1, 0, 0), NONE);
        Inside.put(x, 2, 0, record(10, time(5)));
        Due.is("a DOCUMENT of a greater number", x.trusted(1, 0, 0), 5);
        Inside.put(x, 0, 0, record(8, root(4, 600)));
        Inside.put(x, 1, 0, record(9, new Bytes()));
        Due.is("no ROOT of a greater number", x.trusted(0, 0, 0), 4);
        Due.is("its number", x.trusted(0, 3, 0), 8);
    }

    private static void recordsOfAnotherRole() {
        Due.promise(22, "and that has a DOCUMENT of its role");
        Bytes list = Bytes.document(2, Bytes.told(8, 500, 1, 0), 4);
        Bytes images = Bytes.document(3, new Bytes().num(8, 2).num(500, 4).num(1, 1).num(4, 2).num(9, 2).num(7, 8), 5, 6);
        int[][] told = {{7, 2, BAD, BAD, BAD, BAD}, {BAD, BAD, 1, BAD, BAD, BAD}, {BAD, BAD, 1, BAD, BAD, BAD},
            {BAD, BAD, BAD, 1, 4, 9}};
        Bytes[] documents = {root(8, 500), time(8), list, images};
        for (int role = 0; role < 4; role++) {
            for (int other = 0; other < 4; other++) {
                Device x = new Line(40).x;
                Inside.put(x, 2 * role + 1, 0, record(3, documents[other]));
                int none = role == 0 ? 1 : NONE;
                Due.is("a DOCUMENT of " + other + " in " + role, x.trusted(role, 0, 0), role == other ? 8 : none);
                Due.is("its number", x.trusted(role, 3, 0), role == other ? 3 : 0);
                Inside.put(x, 2 * role + 1, 0, record(4, documents[role]));
                for (int what = 4; what <= 9; what++) {
                    Due.is("behind " + other + ", trusted(" + role + ", " + what + ", 0)", x.trusted(role, what, 0),
                            told[role][what - 4]);
                }
            }
            Bytes malformed = documents[role].part(0, documents[role].size());
            malformed.all.set(4, 0);
            Device x = new Line(40).x;
            Inside.put(x, 2 * role, 0, record(3, malformed));
            Due.is("VERSION 0 of " + role, x.trusted(role, 3, 0), 0);
        }
    }

    private static void recordIsKeptBehindAGreatNumber() {
        Due.promise(22, "written page by page with a number one more (the first: sector 2 r, number 1)");
        long[] numbers = {255, 256, 65535, MOST_NUMBER - 1};
        for (long number : numbers) {
            for (int sector = 2; sector <= 3; sector++) {
                Line line = new Line(40);
                Inside.put(line.x, sector, 0, record(number, time(7)));
                line.toTime(10);
                Due.is("the next one", line.sendTime(8, 500), 3);
                Due.is("its number", line.x.trusted(1, 3, 0), number + 1);
                Due.is("its VERSION", line.x.trusted(1, 0, 0), 8);
                record(number + 1, time(8)).isOnFlash("in the other sector", line.x, 5 - sector, 0);
            }
        }
    }

    /** Each byte of this BODY may be one more, and TIME is good still: no VERSION is below what was TRUSTED then. */
    private static void anyByteMakesAnotherBody() {
        Due.promise(14, "KEPT, if its BODY is another one than the TRUSTED one's.");
        Bytes body = Bytes.told(0x0202, 0x02020202, 0x0202, 0x0202020202020202L);
        for (int i = -1; i < body.size(); i++) {
            Line line = new Line(40);
            Bytes other = body.part(0, body.size());
            if (i >= 0) {
                other.all.set(i, 3);
            }
            Bytes[] bodies = {body, other};
            for (Bytes next : bodies) {
                Inside.sign(line.x, 3, next.digest());
                line.toTime(10);
                Bytes.document(1, next, 3).feedTo(line.x);
                Due.is("TIME", line.x.answer(), 3);
                line.x.stop();
            }
            Due.is("byte " + i + " is another", line.x.trusted(1, 3, 0), i < 0 ? 1 : 2);
            other.isOnFlash("the BODY", line.x, i < 0 ? 2 : 3, 9);
        }
    }

    private static Bytes state(long number, int... numbers) {
        return new Bytes().num(number, 4).num(numbers[0], 1).num(numbers[1], 2).num(numbers[2], 2).num(77, 6)
                .num(numbers[3], 1).num(numbers[4], 2).num(numbers[5], 2).num(88, 6).num(0, 2).check();
    }

    private static void isState(String what, Device x, long number, int... numbers) {
        Due.is(what + ", the number", x.told(9), number);
        for (int i = 0; i < numbers.length; i++) {
            Due.is(what + ", told(" + (3 + i) + ")", x.told(3 + i), numbers[i]);
        }
    }

    private static void isFactoryState(String what, Device x, long number) {
        isState(what, x, number, 0, 1, 40, 0, 0, 0);
    }

    private static void numbersOfStates() {
        Due.promise(21, "Of those whose CHECK fits, and that are just so (a number of 1 .. 2^31 - 1, a slot 0 or 1");
        long[] good = {2, 255, 256, 65536, MOST_NUMBER - 1, MOST_NUMBER};
        long[] wrong = {0, MOST_NUMBER + 1, MOST_NUMBER + 2, 0xFFFFFFFEL, 0xFFFFFFFFL};
        for (int page = 1; page < 8; page++) {
            for (long number : good) {
                Device x = new Line(40).x;
                Inside.put(x, 8 + page / 4, 32 * (page % 4), state(number, 1, 5, 60, 2, 9, 70));
                isState("page " + page, x, number, 1, 5, 60, 2, 9, 70);
            }
            for (long number : wrong) {
                Device x = new Line(40).x;
                Inside.put(x, 8 + page / 4, 32 * (page % 4), state(number, 1, 5, 60, 2, 9, 70));
                isFactoryState("page " + page + ", number " + number, x, 1);
            }
        }
    }

    private static void likeNumbersOfStates() {
        Due.promise(21, "the one of the greatest number counts (of like ones the first)");
        for (int page = 0; page < 8; page++) {
            for (int other = 0; other < 8; other++) {
                if (page != other) {
                    Device x = new Line(40).x;
                    Inside.put(x, 8 + page / 4, 32 * (page % 4), state(6, 0, 5, 60, 2, 9, 70));
                    Inside.put(x, 8 + other / 4, 32 * (other % 4), state(6, 1, 4, 50, 1, 8, 80));
                    boolean isFirst = page < other;
                    isState("pages " + page + ", " + other, x, 6, isFirst ? new int[] {0, 5, 60, 2, 9, 70}
                            : new int[] {1, 4, 50, 1, 8, 80});
                    Inside.put(x, 8 + other / 4, 32 * (other % 4), state(7, 1, 4, 50, 1, 8, 80));
                    isState("a greater number", x, 7, 1, 4, 50, 1, 8, 80);
                }
            }
        }
    }

    private static void bracketsOfStates() {
        Due.promise(21, "a slot 0 or 1, VERSIONS of 1 on (of NOTHING any), LENGTHS of 1 .. 1,024, of NOTHING 0, STAGED "
                + "0 .. 3)");
        int[][] good = {{0, 1, 1, 0, 0, 0}, {1, 65535, 1024, 3, 65535, 1024}, {0, 1, 1, 1, 1, 1}, {0, 5, 9, 0, 65535, 0},
            {0, 5, 9, 0, 1, 0}, {1, 256, 256, 2, 256, 256}};
        int[][] wrong = {{2, 1, 1, 0, 0, 0}, {255, 1, 1, 0, 0, 0}, {0, 0, 1, 0, 0, 0}, {0, 1, 0, 0, 0, 0},
            {0, 1, 1025, 0, 0, 0}, {0, 1, 65535, 0, 0, 0}, {0, 0, 256, 0, 0, 0}, {1, 0, 1024, 1, 1, 1},
            {0, 1, 1, 0, 0, 1}, {0, 1, 1, 0, 0, 1024}, {0, 1, 1, 4, 1, 1},
            {0, 1, 1, 255, 1, 1}, {0, 1, 1, 1, 0, 1}, {0, 1, 1, 2, 0, 1}, {0, 1, 1, 3, 0, 1}, {0, 1, 1, 1, 1, 0},
            {0, 1, 1, 2, 1, 0}, {0, 1, 1, 3, 1, 0}, {0, 1, 1, 1, 1, 1025}, {0, 1, 1, 2, 1, 1025}, {0, 1, 1, 3, 1, 65535}};
        for (int[] numbers : good) {
            Device x = new Line(40).x;
            Inside.put(x, 9, 64, state(6, numbers));
            isState("it counts", x, 6, numbers);
        }
        for (int[] numbers : wrong) {
            Device x = new Line(40).x;
            Inside.put(x, 9, 64, state(6, numbers));
            isFactoryState("slot " + numbers[0] + ", STAGED " + numbers[3], x, 1);
        }
        Bytes state = state(6, 1, 5, 60, 2, 9, 70);
        for (int i = 0; i < 32; i++) {
            Bytes changed = state.part(0, 32);
            changed.all.set(i, changed.all.get(i) ^ 128);
            Device x = new Line(40).x;
            Inside.put(x, 8, 32, changed);
            isFactoryState("byte " + i + " is another", x, 1);
        }
    }

    private static Line withoutStates() {
        Line line = new Line(40);
        Inside.put(line.x, 8, 0, ERASED);
        return line;
    }

    private static void noStateCounts() {
        Due.promise(21, "9 the number of the STATE (0: none counts)");
        Line line = withoutStates();
        isFactoryState("none counts", line.x, 0);
        Due.promise(19, "Then, and else, the CONFIRMED program RUNS.");
        Due.is("boot", line.x.boot(), 1);
        Due.is("nothing is written", line.x.told(10) + line.x.told(11), 0);
        ERASED.isOnFlash("nor is a STATE", line.x, 8, 0);
        Due.is("an UPDATE may begin", line.x.begin(10), 1);
    }

    private static void noStateCountsAnyMore() {
        Due.promise(21, "what is not said in it is then as the factory's");
        for (int kind = 0; kind <= 3; kind++) {
            Line line = new Line(40);
            Inside.put(line.x, 8, 0, ERASED);
            Inside.put(line.x, 9, 32, state(7, 1, 5, 60, kind, 9, kind == 0 ? 0 : 70));
            isState("it counts", line.x, 7, 1, 5, 60, kind, 9, kind == 0 ? 0 : 70);
            Inside.put(line.x, 9, 0, ERASED);
            isFactoryState("none counts any more", line.x, 0);
            isLoading(line, 8, 0, 0);
        }
    }

    private static void statesBesideTheirSectors() {
        Due.promise(21, "Sectors 8 and 9 have STATES, each a page");
        Bytes state = state(7, 1, 5, 60, 2, 9, 70);
        for (int sector = 0; sector < 26; sector++) {
            for (int from = 0; from <= 96; from += 32) {
                Device x = new Line(40).x;
                Inside.put(x, sector, from, state);
                boolean counts = sector == 8 || sector == 9;
                Due.is("a STATE in sector " + sector + ", from " + from, x.told(9), counts ? 7 : 1);
            }
        }
        Device x = new Line(40).x;
        Inside.put(x, 8, 48, state);
        isFactoryState("one that is in no page", x, 1);
    }

    private static void isLoading(Line line, int sector, int page, int erased) {
        Device x = line.x;
        x.image(2, 70, 5);
        int erasings = x.told(11);
        Due.is("LOADING", line.toPieces(1), 5);
        Bytes.state(1, new int[] {0, 1, 40, 1, 2, 70}, Bytes.factoryProgram(40).digest(), Bytes.program(70, 5).digest())
                .isOnFlash("the first STATE", x, sector, 32 * page);
        isState("it counts", x, 1, 0, 1, 40, 1, 2, 70);
        // Three records and the slot take eleven.
        Due.is("sectors that were erased for it", x.told(11) - erasings - 11, erased);
        Due.is("READY", line.sendPieces(), 0);
        Due.is("the next number", x.told(9), 2);
        Due.is("on trial", x.boot(), 2);
        Due.is("kept", x.test(true), 2);
        isState("CONFIRMED", x, 4, 1, 2, 70, 0, 0, 0);
    }

    private static void firstStateBehindNone() {
        Due.promise(21, "To write one: into the first page behind the one that counts, of its sector, that has 255s alone "
                + "(none counts: of sector 8, number 1; what is not said in it is then as the factory's)");
        isLoading(withoutStates(), 8, 0, 0);
        Line line = withoutStates();
        Inside.put(line.x, 9, 0, new Bytes().ones(1, 2, 3));
        isLoading(line, 8, 0, 0);
    }

    private static void firstStateBehindWrittenPages() {
        Due.promise(21, "that has 255s alone (none counts: of sector 8, number 1");
        for (int written = 1; written <= 4; written++) {
            Line line = withoutStates();
            for (int page = 0; page < written; page++) {
                // One byte that is no 255 is enough, be it the first or the last.
                Inside.put(line.x, 8, 32 * page + (page % 2 == 0 ? 31 : 0), new Bytes().ones(254));
            }
            Inside.put(line.x, 9, 32, new Bytes().ones(7));
            isFactoryState("none counts", line.x, 0);
            if (written == 4) {
                Due.promise(21, "if there is none: the other sector is erased, its first page");
            }
            isLoading(line, written < 4 ? 8 : 9, written % 4, written < 4 ? 0 : 1);
        }
    }

    private static void stateBehindAWrittenPage() {
        Due.promise(21, "into the first page behind the one that counts, of its sector, that has 255s alone");
        // For pages 1 to 3 of sector 8 whether they are written; where the next STATE comes, 4: sector 9.
        int[][] cases = {{0, 0, 0, 1}, {1, 0, 0, 2}, {0, 1, 0, 1}, {1, 1, 0, 3}, {1, 0, 1, 2}, {0, 1, 1, 1}, {1, 1, 1, 4}};
        for (int[] c : cases) {
            Line line = new Line(40);
            Device x = line.x;
            for (int page = 1; page <= 3; page++) {
                if (c[page - 1] == 1) {
                    Inside.put(x, 8, 32 * page + 9 * page, new Bytes().ones(127));
                }
            }
            x.image(2, 70, 5);
            Due.is("LOADING", line.toPieces(1), 5);
            Due.is("it counts", x.told(9), 2);
            Due.is("its page", x.flash(8 + c[3] / 4, 32 * (c[3] % 4) + 3), 2);
            Due.is("erasings", x.told(11), 11 + c[3] / 4);
        }
        Line line = new Line(40);
        Inside.put(line.x, 8, 96, Bytes.state(5, new int[] {0, 1, 40, 0, 0, 0}, Bytes.factoryProgram(40).digest(), 0));
        Inside.put(line.x, 8, 0, new Bytes().padTo(32));
        isFactoryState("the last page counts", line.x, 5);
        line.x.image(2, 70, 5);
        Due.is("LOADING", line.toPieces(1), 5);
        Due.is("not in a page ahead of it", line.x.flash(8, 3), 255);
        Due.is("but in the other sector", line.x.flash(9, 3), 6);
    }

    /** A boot takes TRIED away, so no UPDATE meets it. */
    private static void triedIsNeitherReadyNorLoading() {
        Due.promise(14, "Otherwise: the slot that is not CONFIRMED is erased, sector by sector; a STATE is written: "
                + "LOADING that image; PIECE 0.");
        for (int kind = 1; kind <= 3; kind++) {
            Line line = new Line(40);
            Device x = line.x;
            Bytes program = Bytes.program(130, 5);
            Inside.put(x, 18, 0, program.part(0, 128));
            Inside.put(x, 8, 32, Bytes.state(2, new int[] {0, 1, 40, kind, 2, 130}, Bytes.factoryProgram(40).digest(),
                    program.digest()));
            x.image(2, 130, 5);
            Due.is("STAGED " + kind, line.toPieces(1), kind == 2 ? 0 : 5);
            Due.is("the PIECE", x.awaits(2), kind == 1 ? 1 : 0);
            Due.is("the slot", x.flash(18, 0), kind == 3 ? 255 : 5);
            Due.is("the STATE", x.told(9), kind == 3 ? 3 : 2);
            Due.is("STAGED then", x.told(6), kind == 3 ? 1 : kind);
        }
    }

    private static void endsOfGreatNumbers() {
        Due.promise(15, "REFUSED: it goes on to TIME, if the TRUSTED ROOT has not ended (4).");
        long[] ends = {0, MOST_NUMBER - 1, MOST_NUMBER, MOST_NUMBER + 1, 0xFFFFFFFFL};
        for (long end : ends) {
            Device x = new Line(40).x;
            Inside.put(x, 0, 0, record(1, root(2, end)));
            x.begin((int) MOST_NUMBER);
            Due.is("END " + end, x.refuse(), end > MOST_NUMBER ? 2 : -14);
        }
        Due.promise(14, "4 it ended (its END is not above the clock)");
        for (long end : ends) {
            for (int role = 1; role <= 3; role++) {
                int next = role < 3 ? role + 2 : -19;
                Due.is("role " + role + ", END " + end, endOf(role, end), end <= MOST_NUMBER ? -14 : next);
            }
        }
    }

    /** What is answered to the DOCUMENT of a role with this END, when the clock is the greatest there is. */
    private static int endOf(int role, long end) {
        long late = 0xFFFFFFFFL;
        Bytes images = new Bytes().num(1, 2).num(role == 3 ? end : late, 4).num(0, 1);
        Bytes list = Bytes.told(1, role == 2 ? end : late, 1, images.digest());
        Bytes time = Bytes.told(1, role == 1 ? end : late, 1, list.digest());
        Bytes[] bodies = {null, time, list, images};
        int[][] keys = {{}, {3}, {4}, {5, 6}};
        Device x = new Line(40).x;
        Inside.put(x, 0, 0, record(1, root(2, late)));
        x.begin((int) MOST_NUMBER);
        int said = x.refuse();
        for (int r = 1; r <= role; r++) {
            Due.is("AWAITED", said, r + 1);
            for (int key : keys[r]) {
                Inside.sign(x, key, bodies[r].digest());
            }
            Bytes.document(r, bodies[r], keys[r]).feedTo(x);
            said = x.answer();
        }
        return said;
    }
}
