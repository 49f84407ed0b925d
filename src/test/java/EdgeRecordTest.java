/** Promises 14, 22 and 23: records and STATES on flash, at the boundaries of pages, sectors, numbers and THE CHECK. */
public final class EdgeRecordTest {
    private static final int NONE = FlashTrust.NONE, DOWN = FlashTrust.DOWN;

    public static void main(String[] args) {
        checkOfARecordIsNeverAllOnes();
        checkOfAStateIsNeverAllOnes();
        lastPageOfARecord();
        longestRecords();
        sectorsOfEachRole();
        firstRecordIsCut();
        laterRecordIsCut();
        noneIsARecord();
        onlyAnotherBodyIsKept();
        statePages();
        statesBehindACut();
        factoryState();
        Due.close("EdgeRecordTest");
    }

    private static void isCheck(String what, Device x, int sector, int from, int... wanted) {
        for (int i = 0; i < 4; i++) {
            Due.is(what + ", byte " + i + " of the CHECK", x.flash(sector, from + i), wanted[i]);
        }
    }

    private static long upper(Bytes bytes) {
        return bytes.digest() >>> 32;
    }

    /** VERSIONS and ENDS were looked for: the upper 32 bits of the DIGEST are all 1s, or all but the lowest. */
    private static void checkOfARecordIsNeverAllOnes() {
        Due.promise(23, "THE CHECK of bytes: the upper 32 bits of their DIGEST; if these are all 1s, the lowest is 0 "
                + "instead");
        int[][] found = {{1, 33106722, 1}, {3, 627099268, 1}, {2, 330572204, 0}, {2, 637599855, 0}};
        for (int[] f : found) {
            Line line = new Line(40);
            line.toTime(10);
            Due.is("TIME", line.sendTime(f[0], f[1]), 3);
            Bytes document = Bytes.document(1, Bytes.told(f[0], f[1], 1, 0), 3);
            Bytes checked = new Bytes().num(1, 4).num(document.size(), 2).add(document);
            Due.is("the upper 32 bits", upper(checked), f[2] == 1 ? 0xFFFFFFFFL : 0xFFFFFFFEL);
            isCheck("END " + f[1], line.x, 2, 27, 255, 255, 255, 254);
            Due.is("it counts", line.x.trusted(1, 0, 0), f[0]);
            Due.is("its number", line.x.trusted(1, 3, 0), 1);
        }
    }

    private static void checkOfAStateIsNeverAllOnes() {
        Due.promise(23, "THE CHECK of bytes: the upper 32 bits of their DIGEST; if these are all 1s, the lowest is 0 "
                + "instead");
        int[][] found = {{10, 65262, 17, 112, 1}, {11, 34044, 29, 71, 1}, {14, 27944, 32, 60, 0}};
        for (int[] f : found) {
            Line line = new Line(f[0]);
            line.x.image(f[1], f[2], f[3]);
            Due.is("LOADING", line.toPieces(1), 5);
            Bytes state = Bytes.state(2, new int[] {0, 1, f[0], 1, f[1], f[2]}, Bytes.factoryProgram(f[0]).digest(),
                    Bytes.program(f[2], f[3]).digest());
            Due.is("the upper 32 bits", upper(state.part(0, 28)), f[4] == 1 ? 0xFFFFFFFFL : 0xFFFFFFFEL);
            isCheck("VERSION " + f[1], line.x, 8, 60, 255, 255, 255, 254);
            Due.is("it counts", line.x.told(9), 2);
            Due.is("LOADING", line.x.told(6), 1);
            Due.is("READY", line.sendPieces(), 0);
        }
    }

    private static int[] keysWith(int count, int... needed) {
        boolean[] has = new boolean[16];
        int there = 0;
        for (int key : needed) {
            has[key] = true;
            there++;
        }
        for (int key = 15; key >= 0 && there < count; key--) {
            there += has[key] ? 0 : 1;
            has[key] = true;
        }
        int[] keys = new int[there];
        int at = 0;
        for (int key = 0; key < 16; key++) {
            if (has[key]) {
                keys[at++] = key;
            }
        }
        return keys;
    }

    /** TIME has 30 bytes on flash, and one more for each of its keys. */
    private static void lastPageOfARecord() {
        Due.promise(23, "and written page by page with a number one more (the first: sector 2 r, number 1); what is left "
                + "of the last page is 255");
        int[] counts = {1, 2, 3, 4, 16};
        for (int count : counts) {
            Line line = new Line(40);
            line.toTime(10);
            int[] keys = keysWith(count, 3);
            Due.is(count + " keys", line.send(1, 1, 500, keys), 3);
            Bytes record = Bytes.record(1, Bytes.document(1, Bytes.told(1, 500, 1, 0), keys));
            Due.is("its bytes", record.size(), 30 + count);
            Due.is("its pages", line.x.told(10), count <= 2 ? 1 : 2);
            record.padTo(128).isOnFlash(count + " keys", line.x, 2, 0);
            Due.is("one erasing", line.x.told(11), 1);
            int bits = 0;
            for (int key : keys) {
                bits |= 1 << key;
            }
            Due.is("its keys", line.x.trusted(1, 2, 0), bits);
        }
    }

    /** Three images and so many keys: 57 bytes and one for each key. The longest ROOT has 48, and its keys. */
    private static void longestRecords() {
        Due.promise(23, "what is left of the last page is 255");
        int[] counts = {6, 7, 8, 16};
        for (int count : counts) {
            Line line = new Line(40);
            Bytes body = new Bytes().num(1, 2).num(500, 4).num(3, 1);
            for (int i = 0; i < 3; i++) {
                line.x.image(2 + i, 60, i);
                body.num(2 + i, 2).num(60, 2).num(Bytes.program(60, i).digest(), 8);
            }
            line.toTime(10);
            line.prepare(1, 500);
            line.sendTime(1, 500);
            line.sendList(1, 500);
            int[] keys = keysWith(count, 5, 6);
            int writings = line.x.told(10);
            Due.is(count + " keys", line.send(3, 1, 500, keys), 5);
            Bytes record = Bytes.record(1, Bytes.document(3, body, keys));
            Due.is("its bytes", record.size(), 57 + count);
            // The STATE LOADING takes one.
            Due.is("its pages", line.x.told(10) - writings - 1, count <= 7 ? 2 : 3);
            record.padTo(128).isOnFlash(count + " keys", line.x, 6, 0);
        }
        int[] rootCounts = {15, 16};
        for (int count : rootCounts) {
            Line line = new Line(40);
            Bytes body = new Bytes().num(2, 2).num(500, 4);
            for (int role = 0; role < 4; role++) {
                line.x.plan(role, 0x1F, 5);
                body.ones(5, 5, 0, 1, 2, 3, 4);
            }
            line.x.begin(10);
            int[] keys = keysWith(count, 0, 1, 2, 3, 4);
            Due.is(count + " keys of ROOT", line.send(0, 2, 500, keys), 1);
            Bytes record = Bytes.record(1, Bytes.document(0, body, keys));
            Due.is("its bytes", record.size(), 48 + count);
            Due.is("its pages", line.x.told(10), 2);
            record.padTo(128).isOnFlash(count + " keys of ROOT", line.x, 0, 0);
            Due.is("THRESHOLD 5", line.x.trusted(0, 5, 3), 5);
        }
    }

    private static void sectorsOfEachRole() {
        Due.promise(22, "THEIR PLACES: role r has the sectors 2 r and 2 r + 1: in each perhaps a record");
        Line line = new Line(40);
        Device x = line.x;
        for (int round = 1; round <= 4; round++) {
            x.begin(10);
            Due.is("ROOT", line.send(0, round + 1, 500, 0, 1), 1);
            x.refuse();
            line.prepare(round, 500);
            Due.is("TIME", line.sendTime(round, 500), 3);
            Due.is("LIST", line.sendList(round, 500), 4);
            Due.is("IMAGES", line.sendImages(round, 500), -19);
            for (int role = 0; role < 4; role++) {
                int sector = 2 * role + (round + 1) % 2;
                Due.is("the number of " + role, x.trusted(role, 3, 0), round);
                Due.is("its sector", x.flash(sector, 3), round);
                Due.is("its role", x.flash(sector, 6), role);
                Due.is("the other sector", x.flash(sector ^ 1, 3), round == 1 ? 255 : round - 1);
                Due.is("its VERSION", x.trusted(role, 0, 0), role == 0 ? round + 1 : round);
            }
        }
    }

    private static void firstRecordIsCut() {
        Due.promise(22, "without one there is none (ROOT: the factory's)");
        for (int n = 0; n <= 2; n++) {
            Line line = new Line(40);
            line.x.begin(10);
            line.x.power(n, -1);
            Due.is("ROOT", line.send(0, 2, 500, 0, 1), DOWN);
            Due.is("the factory's", line.x.trusted(0, 0, 0), 1);
            Due.is("its END", line.x.trusted(0, 1, 0), 1000);
            Due.is("its keys", line.x.trusted(0, 2, 0), 0);
            Due.is("no number", line.x.trusted(0, 3, 0), 0);
            line.x.boot();
            line.x.begin(10);
            Due.is("ROOT again", line.send(0, 2, 500, 0, 1), 1);
            Due.is("its number", line.x.trusted(0, 3, 0), 1);
            Due.is("in the first sector", line.x.flash(0, 3), 1);
            Due.is("not in the second", line.x.flash(1, 3), 255);
        }
        for (int n = 0; n <= 1; n++) {
            Line line = new Line(40);
            line.toTime(10);
            line.x.power(n, -1);
            Due.is("TIME", line.sendTime(1, 500), DOWN);
            Due.is("none", line.x.trusted(1, 0, 0), NONE);
            Due.is("no number", line.x.trusted(1, 3, 0), 0);
        }
    }

    private static void laterRecordIsCut() {
        Due.promise(22, "of two the greater number (of like ones the first sector), counts");
        for (int last = 1; last <= 3; last++) {
            for (int n = 0; n <= 3; n++) {
                Line line = new Line(40);
                for (int version = 1; version <= last; version++) {
                    line.toTime(10);
                    line.send(1, version, 500, 3, 8, 9);
                    line.x.stop();
                }
                line.toTime(10);
                line.x.power(n, 0);
                // Three keys make two pages of it, and with the erasing three.
                Due.is("cut behind " + n, line.send(1, 9, 500, 3, 8, 9), n < 3 ? DOWN : 3);
                Due.is("VERSION", line.x.trusted(1, 0, 0), n < 3 ? last : 9);
                Due.is("its number", line.x.trusted(1, 3, 0), n < 3 ? last : last + 1);
                Due.is("its sector", line.x.flash(3 - last % 2, 3), last);
            }
        }
    }

    private static void noneIsARecord() {
        Due.promise(22, "a number (4, from 1 on), a length (2), so many bytes (the DOCUMENT; none: 0), the CHECK of all "
                + "this (4)");
        Line line = new Line(40);
        line.toPieces(1);
        line.x.plan(1, 4, 1);
        line.x.begin(10);
        int writings = line.x.told(10);
        Due.is("ROOT", line.send(0, 2, 500, 0, 1), 1);
        Due.is("a page each, and two of ROOT", line.x.told(10) - writings, 4);
        for (int role = 1; role <= 2; role++) {
            Bytes none = new Bytes().num(2, 4).num(0, 2).check();
            Due.is("its bytes", none.size(), 10);
            none.padTo(128).isOnFlash("none of " + role, line.x, 2 * role + 1, 0);
            Due.is("the one before stays", line.x.flash(2 * role, 3), 1);
        }
    }

    private static void onlyAnotherBodyIsKept() {
        Due.promise(14, "KEPT, if its BODY is another one than the TRUSTED one's.");
        int[][] bodies = {{5, 500, 1}, {5, 501, 2}, {6, 500, 2}, {5 + 256, 500, 2}, {5, 500 + (1 << 24), 2}};
        for (int[] b : bodies) {
            Line line = new Line(40);
            line.toTime(10);
            line.send(1, 5, 500, 3);
            line.x.stop();
            line.toTime(10);
            Due.is("TIME", line.send(1, b[0], b[1], 3, 7), 3);
            Due.is("its number", line.x.trusted(1, 3, 0), b[2]);
            Due.is("its keys", line.x.trusted(1, 2, 0), b[2] == 1 ? 8 : 136);
        }
        Line line = new Line(40);
        line.x.begin(10);
        line.send(0, 2, 500, 0, 1);
        Due.is("a ROOT is never the TRUSTED one", line.send(0, 2, 500, 0, 1), -13);
        Due.is("its number", line.x.trusted(0, 3, 0), 1);
    }

    /** LOADING and NOTHING by turns. */
    private static void statePages() {
        Due.promise(21, "into the first page behind the one that counts, of its sector, that has 255s alone");
        Line line = new Line(40);
        Device x = line.x;
        x.image(2, 20, 5);
        for (int number = 2; number <= 14; number++) {
            int erasings = x.told(11);
            if (number % 2 == 0) {
                Due.is("LOADING", line.toPieces(1), 5);
                erasings += number == 2 ? 3 + 8 : 8;
            } else {
                x.piece(2, 0);
                x.spoil(0, 1);
                Due.is("NOTHING", x.answer(), -18);
            }
            int place = number - 1;
            int sector = 8 + place / 4 % 2;
            if (place % 4 == 0) {
                Due.promise(21, "if there is none: the other sector is erased, its first page");
                erasings++;
                new Bytes().padTo(96).isOnFlash("behind the first page", x, sector, 32);
            }
            Due.is("the STATE", x.told(9), number);
            Due.is("its page", x.flash(sector, 32 * (place % 4) + 3), number);
            Due.is("the sectors that were erased", x.told(11), erasings);
            Due.is("the one before stays", x.flash(8 + (place - 1) / 4 % 2, 32 * ((place - 1) % 4) + 3), number - 1);
        }
    }

    /** A writing that is cut leaves the page erased, an erasing that is cut is done again. */
    private static void statesBehindACut() {
        Due.promise(21, "if there is none: the other sector is erased, its first page");
        for (int n = 0; n <= 2; n++) {
            Line line = new Line(40);
            Device x = line.x;
            Due.is("READY", line.load(2, 20, 5), 0);
            x.boot();
            Due.is("four STATES", x.told(9), 4);
            x.power(n, 0);
            Due.is("the fifth", x.boot(), n < 2 ? DOWN : 1);
            Due.is("it counts", x.told(9), n < 2 ? 4 : 5);
            Due.is("its page", x.flash(9, 3), n < 2 ? 255 : 5);
            Due.is("boot", x.boot(), 1);
            Due.is("it counts", x.told(9), 5);
            Due.is("its page", x.flash(9, 3), 5);
            Due.is("erasings", x.told(11), 3 + 8 + (n < 2 ? 2 : 1));
        }
        Line line = new Line(40);
        Device x = line.x;
        x.image(2, 20, 5);
        x.power(15, 0);
        Due.is("the writing of STATE 2 is cut", line.toPieces(1), DOWN);
        Due.is("its page is erased", x.flash(8, 35), 255);
        x.boot();
        Due.is("LOADING", line.toPieces(1), 5);
        Due.is("its page", x.flash(8, 35), 2);
        Due.is("it counts", x.told(9), 2);
    }

    private static void factoryState() {
        Due.promise(21, "At first sector 8, page 0 has number 1: slot 0, VERSION 1, the factory's program, NOTHING.");
        int[] lengths = {1, 255, 256, 1024};
        for (int n : lengths) {
            Device x = new Device(n);
            Bytes.state(1, new int[] {0, 1, n, 0, 0, 0}, Bytes.factoryProgram(n).digest(), 0).padTo(128)
                    .isOnFlash("n " + n, x, 8, 0);
            new Bytes().padTo(128).isOnFlash("n " + n, x, 9, 0);
            Due.is("its number", x.told(9), 1);
        }
    }
}
