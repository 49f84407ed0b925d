import java.util.ArrayList;
import java.util.List;

/** Bytes put together by hand from the document's words, to hold the program's against. */
final class Bytes {
    final List<Integer> all = new ArrayList<>();

    Bytes num(long value, int width) {
        for (int i = width - 1; i >= 0; i--) {
            all.add((int) (value >>> (8 * i)) & 255);
        }
        return this;
    }

    Bytes add(Bytes other) {
        all.addAll(other.all);
        return this;
    }

    Bytes ones(int... bytes) {
        for (int b : bytes) {
            all.add(b);
        }
        return this;
    }

    Bytes check() {
        long upper = digest() >>> 32;
        return num(upper == 0xFFFFFFFFL ? 0xFFFFFFFEL : upper, 4);
    }

    Bytes padTo(int size) {
        while (all.size() < size) {
            all.add(255);
        }
        return this;
    }

    /** The bytes from one place on, up to another that is not among them. */
    Bytes part(int from, int to) {
        Bytes part = new Bytes();
        part.all.addAll(all.subList(from, to));
        return part;
    }

    int size() {
        return all.size();
    }

    long digest() {
        long h = 1469598103934665603L;
        for (int b : all) {
            h = (h ^ b) * 1099511628211L;
            h ^= h >>> 29;
        }
        return h;
    }

    static Bytes document(int role, Bytes body, int... keys) {
        return new Bytes().num(role, 1).num(body.size(), 2).add(body).num(keys.length, 1).ones(keys);
    }

    static Bytes told(int version, long end, int toldVersion, long toldDigest) {
        return new Bytes().num(version, 2).num(end, 4).num(toldVersion, 2).num(toldDigest, 8);
    }

    static Bytes factoryProgram(int n) {
        Bytes program = new Bytes();
        for (int i = 0; i < n; i++) {
            program.ones((7 * i + 3) & 255);
        }
        return program;
    }

    static Bytes program(int length, int seed) {
        Bytes program = new Bytes();
        for (int i = 0; i < length; i++) {
            program.ones((seed + 7 * i + (i >> 6) * seed) & 255);
        }
        return program;
    }

    static Bytes record(int number, Bytes document) {
        return new Bytes().num(number, 4).num(document.size(), 2).add(document).check();
    }

    /** A STATE; the numbers are the CONFIRMED slot, VERSION, LENGTH, then what is STAGED, its VERSION, LENGTH. */
    static Bytes state(int number, int[] numbers, long digest, long stagedDigest) {
        return new Bytes().num(number, 4).num(numbers[0], 1).num(numbers[1], 2).num(numbers[2], 2).num(digest, 6)
                .num(numbers[3], 1).num(numbers[4], 2).num(numbers[5], 2).num(stagedDigest, 6).num(0, 2).check();
    }

    void isOnTape(String what, Device x) {
        for (int i = 0; i < size(); i++) {
            Due.is(what + ", byteOf(" + i + ")", x.byteOf(i), all.get(i));
        }
        Due.is(what + ", byteOf(" + size() + ")", x.byteOf(size()), FlashTrust.BAD);
        Due.is(what + ", digest()", x.digest(), digest());
    }

    void isOnFlash(String what, Device x, int sector, int from) {
        for (int i = 0; i < size(); i++) {
            Due.is(what + ", flash(" + sector + ", " + (from + i) + ")", x.flash(sector, from + i), all.get(i));
        }
    }

    /** Puts these bytes on the tape, by feed() and end(), instead of what is there. */
    void feedTo(Device x) {
        emptyTape(x);
        for (int from = 0; from < size(); from += 20) {
            int[] words = new int[5];
            for (int i = 0; i < 20; i++) {
                int b = from + i < size() ? all.get(from + i) : 0;
                words[i / 4] = words[i / 4] << 8 | b;
            }
            x.feed(words[0], words[1], words[2], words[3], words[4]);
            if (size() - from < 20) {
                x.end(size() - from);
            }
        }
    }

    static void emptyTape(Device x) {
        int left = 300;
        for (int i = 0; i < 16 && left >= 20; i++) {
            x.end(0);
            left = sizeOfTape(x);
        }
        if (left > 0) {
            x.feed(0, 0, 0, 0, 0);
            x.end(20 - left);
            x.end(0);
        }
    }

    static int sizeOfTape(Device x) {
        int size = 0;
        while (x.byteOf(size) >= 0) {
            size++;
        }
        return size;
    }
}
