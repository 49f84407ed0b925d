/**
 * A device whose program is renewed over a line that nobody trusts, and the other side of that line.
 * All rows are made once, in constructors, so that no call makes an object.
 */
public final class FlashTrust {
    public static final int BAD = -1, NONE = -2, DOWN = -3, STATE = -4, FULL = -5;

    private static final int ROOT = 0, TIME = 1, LIST = 2, IMAGES = 3, ROLES = 4;
    private static final int KEYS = 16, MOST_ROLE_KEYS = 5, MOST_IMAGES = 4;
    private static final int MOST_PROGRAM = 1024, MOST_VERSION = 65535, PIECE_BYTES = 64;
    private static final int TAPE_ROOM = 300, FEED_BYTES = 20, MOST_POWER = 500;
    // IMAGES with four images are the longest BODY, and all sixteen keys may stand behind it.
    private static final int MOST_BODY = 55, MOST_DOCUMENT = MOST_BODY + 4 + KEYS;

    private static final int PAGE_BYTES = 32, SECTOR_PAGES = 4, SECTOR_BYTES = 128, SECTORS = 26;
    private static final int MOST_NUMBER = 2147483647;
    private static final int STATE_SECTOR = 8, STATE_PAGES = 8, SLOT_SECTOR = 10, SLOT_SECTORS = 8;

    private static final int NOTHING = 0, LOADING = 1, READY = 2, TRIED = 3;
    // What is AWAITED is a role's number and one more, or a PIECE.
    private static final int AWAITS_ROOT = 1, AWAITS_TIME = 2, AWAITS_PIECE = 5;

    private static final int MALFORMED = 1, TOO_FEW_KEYS = 2, WRONG_VERSION = 3, ENDED = 4, WRONG_DIGEST = 5,
            REFUSED = 6, WRONG_LENGTH = 7, WRONG_PROGRAM = 8, NOTHING_NEWER = 9, OLDER = 10;

    private static final int[] FACTORY_KEYS = {7, 8, 16, 96};
    private static final int[] FACTORY_THRESHOLDS = {2, 1, 1, 2};

    private final Row tape = new Row(TAPE_ROOM);
    private final Maker maker;
    private final Flash flash;
    private final Shelf[] shelves = new Shelf[ROLES];
    private final States states;
    private final Loader loader;
    private final Update update;

    public FlashTrust(int n) {
        int length = Math.max(1, Math.min(n, MOST_PROGRAM));
        Signatures signatures = new Signatures();
        maker = new Maker(signatures);
        flash = new Flash(length);
        for (int role = ROOT; role < ROLES; role++) {
            shelves[role] = new Shelf(flash, role);
        }
        states = new States(flash, length);
        states.install();
        loader = new Loader(flash, states);
        update = new Update(flash, shelves, states, signatures);
    }

    public int feed(int a, int b, int c, int d, int e) {
        if (tape.size() + FEED_BYTES > TAPE_ROOM) {
            return FULL;
        }
        tape.addNumber(a, 4);
        tape.addNumber(b, 4);
        tape.addNumber(c, 4);
        tape.addNumber(d, 4);
        tape.addNumber(e, 4);
        return tape.size();
    }

    public int end(int n) {
        if (n < 0 || n > FEED_BYTES || tape.size() < FEED_BYTES) {
            return BAD;
        }
        tape.shorten(FEED_BYTES - n);
        return tape.size();
    }

    public int byteOf(int i) {
        return tape.has(i) ? tape.at(i) : BAD;
    }

    public int plan(int role, int keys, int threshold) {
        return maker.planRole(role, keys, threshold);
    }

    public int image(int version, int length, int seed) {
        return maker.addImage(version, length, seed);
    }

    public int clear() {
        return maker.dropImages();
    }

    public int draft(int role, int version, int end) {
        return maker.compose(role, version, end);
    }

    public int sign(int key) {
        return maker.addKey(key);
    }

    public int show() {
        return maker.copyDraft(tape);
    }

    public int piece(int version, int k) {
        return maker.copyPiece(version, k, tape);
    }

    public int spoil(int i, int mask) {
        if (!tape.has(i) || mask < 1 || mask > 255) {
            return BAD;
        }
        tape.set(i, tape.at(i) ^ mask);
        return tape.at(i);
    }

    public int begin(int clock) {
        if (clock < 0) {
            return BAD;
        }
        if (flash.isDown()) {
            return DOWN;
        }
        if (update.goesOn() || !loader.isSettled()) {
            return STATE;
        }
        return update.start(clock);
    }

    public int answer() {
        if (flash.isDown()) {
            return DOWN;
        }
        if (!update.goesOn()) {
            return STATE;
        }
        int said;
        if (update.awaited == AWAITS_ROOT) {
            said = update.takeRoot(tape);
        } else if (update.awaited == AWAITS_PIECE) {
            said = update.takePiece(tape);
        } else {
            said = update.takePaper(tape);
        }
        tape.empty();
        return unlessDown(said);
    }

    public int refuse() {
        if (flash.isDown()) {
            return DOWN;
        }
        if (!update.goesOn()) {
            return STATE;
        }
        return update.takeRefusal();
    }

    public int awaits(int what) {
        switch (what) {
            case 0:
                return update.awaited;
            case 1:
                return update.wantedVersion();
            case 2:
                return update.piece;
            default:
                return BAD;
        }
    }

    public int stop() {
        if (flash.isDown()) {
            return DOWN;
        }
        int stopped = update.goesOn() ? 1 : 0;
        update.giveUp();
        return stopped;
    }

    public int power(int n, int mask) {
        if (n < -1 || n > MOST_POWER) {
            return BAD;
        }
        flash.tellCut(n, mask);
        return 1;
    }

    public int boot() {
        update.giveUp();
        flash.switchOn();
        return unlessDown(loader.start());
    }

    public int test(boolean passed) {
        if (flash.isDown()) {
            return DOWN;
        }
        if (!loader.onTrial) {
            return STATE;
        }
        return unlessDown(passed ? loader.confirm() : loader.reject());
    }

    public int told(int what) {
        switch (what) {
            case 0:
                return flash.isDown() ? 1 : 0;
            case 1:
                return loader.running;
            case 2:
                return loader.onTrial ? 1 : 0;
            case 10:
                return flash.writings;
            case 11:
                return flash.erasings;
            case 12:
                return flash.left;
            case 13:
                return update.error;
            case 14:
                return update.clock;
            default:
                return states.tell(what);
        }
    }

    public int trusted(int role, int what, int k) {
        if (role < ROOT || role >= ROLES) {
            return BAD;
        }
        Shelf shelf = shelves[role];
        if (what == 3) {
            return shelf.number();
        }
        if (!shelf.holds()) {
            return what == 0 ? NONE : BAD;
        }
        return shelf.paper().tell(what, k);
    }

    public int flash(int sector, int i) {
        if (sector < 0 || sector >= SECTORS || i < 0 || i >= SECTOR_BYTES) {
            return BAD;
        }
        return flash.cells.at(sector * SECTOR_BYTES + i);
    }

    public long digest() {
        return tape.hash(0, tape.size());
    }

    private int unlessDown(int said) {
        if (!flash.isDown()) {
            return said;
        }
        update.giveUp();
        loader.halt();
        return DOWN;
    }

    /** A row of bytes, 0 .. 255 each, that never grows beyond the room it was made with. */
    private static final class Row {
        private final int[] cells;
        private int size = 0;

        Row(int room) {
            cells = new int[Math.max(room, 0)];
        }

        int size() {
            return size;
        }

        boolean has(int i) {
            return i >= 0 && i < size;
        }

        int at(int i) {
            return i >= 0 && i < size ? cells[i] : 255;
        }

        void set(int i, int value) {
            if (i >= 0 && i < size) {
                cells[i] = value & 255;
            }
        }

        void empty() {
            size = 0;
        }

        void shorten(int count) {
            size = Math.max(0, size - Math.max(count, 0));
        }

        void add(int value) {
            if (size < cells.length) {
                cells[size] = value & 255;
                size++;
            }
        }

        void addNumber(long value, int width) {
            for (int i = width - 1; i >= 0; i--) {
                add((int) (value >>> (8 * i)));
            }
        }

        void addFrom(Row source, int from, int count) {
            for (int i = 0; i < count; i++) {
                add(source.at(from + i));
            }
        }

        /** Tells -1 where the row has not all of the number's bytes. */
        long number(int from, int width) {
            if (from < 0 || width < 0 || from > size - width) {
                return -1;
            }
            long value = 0;
            for (int i = from; i < from + width; i++) {
                value = value << 8 | cells[i];
            }
            return value;
        }

        /** The keys of a list as bits, or -1 where the list is not rising, not of keys, or not all there. */
        int keyBits(int from, int count) {
            if (from < 0 || count < 0 || from > size - count) {
                return -1;
            }
            int bits = 0;
            int last = -1;
            for (int i = from; i < from + count; i++) {
                int key = cells[i];
                if (key <= last || key >= KEYS) {
                    return -1;
                }
                bits |= 1 << key;
                last = key;
            }
            return bits;
        }

        void addKeys(int bits) {
            add(Integer.bitCount(bits));
            for (int key = 0; key < KEYS; key++) {
                if ((bits >> key & 1) != 0) {
                    add(key);
                }
            }
        }

        long hash(int from, int count) {
            long h = 1469598103934665603L;
            if (from < 0 || count < 0 || from > size - count) {
                return h;
            }
            for (int i = from; i < from + count; i++) {
                h = (h ^ cells[i]) * 1099511628211L;
                h = h ^ (h >>> 29);
            }
            return h;
        }

        /** THE CHECK is never all 1s, so that erased bytes never fit. */
        static long checkOf(long hash) {
            long upper = hash >>> 32;
            return upper == 0xFFFFFFFFL ? upper - 1 : upper;
        }
    }

    /** The flash, and the power that may fail while it is changed. Nothing changes it while it is DOWN. */
    private static final class Flash {
        private static final long LOWEST_SIX_BYTES = 0xFFFFFFFFFFFFL;

        final Row cells = new Row(SECTORS * SECTOR_BYTES);
        int writings = 0;
        int erasings = 0;
        int left = -1;
        private int mask = 0;
        private boolean down = false;

        Flash(int programLength) {
            for (int i = 0; i < SECTORS * SECTOR_BYTES; i++) {
                cells.add(255);
            }
            int start = slotStart(0);
            for (int i = 0; i < programLength; i++) {
                cells.set(start + i, 7 * i + 3);
            }
        }

        boolean isDown() {
            return down;
        }

        void switchOn() {
            down = false;
        }

        void tellCut(int operations, int stayingBits) {
            left = operations;
            mask = stayingBits;
        }

        static int slotStart(int slot) {
            return (SLOT_SECTOR + slot * SLOT_SECTORS) * SECTOR_BYTES;
        }

        /** Bytes that the row has not are 255, which changes nothing on flash. */
        void write(int page, Row source, int from) {
            if (down) {
                return;
            }
            writings++;
            if (powerHolds()) {
                burn(page, source, from);
            }
        }

        void burn(int page, Row source, int from) {
            int start = page * PAGE_BYTES;
            for (int i = 0; i < PAGE_BYTES; i++) {
                cells.set(start + i, cells.at(start + i) & source.at(from + i));
            }
        }

        void erase(int sector) {
            if (down) {
                return;
            }
            erasings++;
            int staying = powerHolds() ? 0 : mask;
            int start = sector * SECTOR_BYTES;
            for (int i = 0; i < SECTOR_BYTES; i++) {
                int stayingHere = staying >>> (8 * (i % 4)) & 255;
                cells.set(start + i, cells.at(start + i) | (255 ^ stayingHere));
            }
        }

        private boolean powerHolds() {
            if (left < 0) {
                return true;
            }
            left--;
            down = left < 0;
            return !down;
        }

        void writeAll(int page, Row source) {
            for (int from = 0; from < source.size(); from += PAGE_BYTES) {
                write(page + from / PAGE_BYTES, source, from);
            }
        }

        void eraseSlot(int slot) {
            for (int i = 0; i < SLOT_SECTORS; i++) {
                erase(SLOT_SECTOR + slot * SLOT_SECTORS + i);
            }
        }

        boolean isBlank(int page) {
            for (int i = 0; i < PAGE_BYTES; i++) {
                if (cells.at(page * PAGE_BYTES + i) != 255) {
                    return false;
                }
            }
            return true;
        }

        long programHash(int slot, int length) {
            return lowest(cells.hash(slotStart(slot), length));
        }

        static long lowest(long hash) {
            return hash & LOWEST_SIX_BYTES;
        }

        int lastWrittenPiece(int slot, int length) {
            for (int i = length - 1; i >= 0; i--) {
                if (cells.at(slotStart(slot) + i) != 255) {
                    return i / PIECE_BYTES;
                }
            }
            return 0;
        }
    }

    /** A DOCUMENT, taken apart. Its parts mean something only when read() said that it is well formed. */
    private static final class Paper {
        private static final int BODY_AT = 3, HEAD_BYTES = 6, TOLD_BYTES = 10, IMAGE_BYTES = 12;

        final Row bytes = new Row(MOST_DOCUMENT);
        int role;
        int version;
        long end;
        int keys;
        long bodyHash;
        private int bodyLength;
        final int[] roleKeys = new int[ROLES];
        final int[] thresholds = new int[ROLES];
        int toldVersion;
        long toldHash;
        int images;
        final int[] imageVersions = new int[MOST_IMAGES];
        final int[] imageLengths = new int[MOST_IMAGES];
        final long[] imageHashes = new long[MOST_IMAGES];

        /** The factory's ROOT is never KEPT, so it needs no bytes. */
        void becomeFactoryRoot() {
            role = ROOT;
            version = 1;
            end = 1000;
            keys = 0;
            for (int r = ROOT; r < ROLES; r++) {
                roleKeys[r] = FACTORY_KEYS[r];
                thresholds[r] = FACTORY_THRESHOLDS[r];
            }
        }

        boolean read(Row source, int from, int length) {
            if (length < BODY_AT + HEAD_BYTES + 1 || length > MOST_DOCUMENT) {
                return false;
            }
            bytes.empty();
            bytes.addFrom(source, from, length);
            role = bytes.at(0);
            bodyLength = (int) bytes.number(1, 2);
            if (!readHead() || !readKeys()) {
                return false;
            }
            bodyHash = bytes.hash(BODY_AT, bodyLength);
            switch (role) {
                case ROOT:
                    return readRoot();
                case TIME:
                case LIST:
                    return readTold();
                case IMAGES:
                    return readImages();
                default:
                    return false;
            }
        }

        private boolean readHead() {
            if (bodyLength < HEAD_BYTES || BODY_AT + bodyLength >= bytes.size()) {
                return false;
            }
            version = (int) bytes.number(BODY_AT, 2);
            end = bytes.number(BODY_AT + 2, 4);
            return version > 0;
        }

        private boolean readKeys() {
            int at = BODY_AT + bodyLength;
            int count = bytes.at(at);
            keys = bytes.keyBits(at + 1, count);
            return keys >= 0 && at + 1 + count == bytes.size();
        }

        private boolean readRoot() {
            int at = BODY_AT + HEAD_BYTES;
            int bodyEnd = BODY_AT + bodyLength;
            for (int r = ROOT; r < ROLES; r++) {
                if (at + 2 > bodyEnd) {
                    return false;
                }
                int count = bytes.at(at + 1);
                if (count > MOST_ROLE_KEYS || at + 2 + count > bodyEnd) {
                    return false;
                }
                thresholds[r] = bytes.at(at);
                roleKeys[r] = bytes.keyBits(at + 2, count);
                if (roleKeys[r] < 0 || thresholds[r] < 1 || thresholds[r] > count) {
                    return false;
                }
                at += 2 + count;
            }
            return at == bodyEnd;
        }

        private boolean readTold() {
            if (bodyLength != HEAD_BYTES + TOLD_BYTES) {
                return false;
            }
            toldVersion = (int) bytes.number(BODY_AT + HEAD_BYTES, 2);
            toldHash = bytes.number(BODY_AT + HEAD_BYTES + 2, 8);
            return toldVersion > 0;
        }

        private boolean readImages() {
            images = bodyLength > HEAD_BYTES ? bytes.at(BODY_AT + HEAD_BYTES) : -1;
            if (images < 0 || images > MOST_IMAGES || bodyLength != HEAD_BYTES + 1 + images * IMAGE_BYTES) {
                return false;
            }
            int last = 0;
            for (int i = 0; i < images; i++) {
                int at = BODY_AT + HEAD_BYTES + 1 + i * IMAGE_BYTES;
                imageVersions[i] = (int) bytes.number(at, 2);
                imageLengths[i] = (int) bytes.number(at + 2, 2);
                imageHashes[i] = bytes.number(at + 4, 8);
                if (imageVersions[i] <= last || imageLengths[i] < 1 || imageLengths[i] > MOST_PROGRAM) {
                    return false;
                }
                last = imageVersions[i];
            }
            return true;
        }

        boolean hasBodyOf(Paper other) {
            if (bodyLength != other.bodyLength) {
                return false;
            }
            for (int i = BODY_AT; i < BODY_AT + bodyLength; i++) {
                if (bytes.at(i) != other.bytes.at(i)) {
                    return false;
                }
            }
            return true;
        }

        boolean givesLike(Paper other, int givenRole) {
            return roleKeys[givenRole] == other.roleKeys[givenRole]
                    && thresholds[givenRole] == other.thresholds[givenRole];
        }

        int tell(int what, int k) {
            switch (what) {
                case 0:
                    return version;
                case 1:
                    return (int) end;
                case 2:
                    return keys;
                case 4:
                    return isRole(k) ? roleKeys[k] : BAD;
                case 5:
                    return isRole(k) ? thresholds[k] : BAD;
                case 6:
                    return role == TIME || role == LIST ? toldVersion : BAD;
                case 7:
                    return role == IMAGES ? images : BAD;
                case 8:
                    return isImage(k) ? imageVersions[k] : BAD;
                case 9:
                    return isImage(k) ? imageLengths[k] : BAD;
                default:
                    return BAD;
            }
        }

        private boolean isRole(int k) {
            return role == ROOT && k >= 0 && k < ROLES;
        }

        private boolean isImage(int k) {
            return role == IMAGES && k >= 0 && k < images && k < MOST_IMAGES;
        }
    }

    /** One sector of a role, with the record that is perhaps in it. */
    private static final class Entry {
        private static final int HEAD_BYTES = 6, CHECK_BYTES = 4;

        private final Flash flash;
        private final int role;
        final int sector;
        final Paper paper = new Paper();
        /** 0: there is no record that could count. */
        int number = 0;
        boolean holds = false;

        Entry(Flash flash, int role, int sector) {
            this.flash = flash;
            this.role = role;
            this.sector = sector;
        }

        void look() {
            int start = sector * SECTOR_BYTES;
            long found = flash.cells.number(start, 4);
            int length = (int) flash.cells.number(start + 4, 2);
            number = 0;
            if (found < 1 || found > MOST_NUMBER || length > SECTOR_BYTES - HEAD_BYTES - CHECK_BYTES) {
                return;
            }
            long check = Row.checkOf(flash.cells.hash(start, HEAD_BYTES + length));
            if (check != flash.cells.number(start + HEAD_BYTES + length, CHECK_BYTES)) {
                return;
            }
            holds = length > 0;
            boolean fits = holds
                    ? paper.read(flash.cells, start + HEAD_BYTES, length) && paper.role == role
                    : role != ROOT;
            if (fits) {
                number = (int) found;
            }
        }
    }

    /** The two sectors of a role, and the TRUSTED DOCUMENT that they tell. */
    private static final class Shelf {
        private final Flash flash;
        private final Entry first;
        private final Entry second;
        private final Paper factory = new Paper();
        private final boolean hasFactory;
        private final Row kept = new Row(SECTOR_BYTES);

        Shelf(Flash flash, int role) {
            this.flash = flash;
            first = new Entry(flash, role, 2 * role);
            second = new Entry(flash, role, 2 * role + 1);
            hasFactory = role == ROOT;
            factory.becomeFactoryRoot();
        }

        private boolean secondCounts() {
            return second.number > first.number;
        }

        private Entry counting() {
            return secondCounts() ? second : first;
        }

        int number() {
            return Math.max(first.number, second.number);
        }

        boolean holds() {
            return hasFactory || (number() > 0 && counting().holds);
        }

        Paper paper() {
            return number() == 0 && hasFactory ? factory : counting().paper;
        }

        boolean holdsBodyOf(Paper other) {
            return holds() && paper().hasBodyOf(other);
        }

        /** An empty row stands for no DOCUMENT. */
        void keep(Row document) {
            Entry other = number() == 0 || secondCounts() ? first : second;
            kept.empty();
            kept.addNumber(number() + 1, 4);
            kept.addNumber(document.size(), 2);
            kept.addFrom(document, 0, document.size());
            kept.addNumber(Row.checkOf(kept.hash(0, kept.size())), 4);
            flash.erase(other.sector);
            flash.writeAll(other.sector * SECTOR_PAGES, kept);
            other.look();
        }
    }

    /** The STATES of the loader. The fields are those of the one that counts, but while a next one is prepared. */
    private static final class States {
        private static final int FIRST_PAGE = STATE_SECTOR * SECTOR_PAGES, CHECKED_BYTES = 28;

        private final Flash flash;
        private final int factoryLength;
        private final long factoryHash;
        private final Row page = new Row(PAGE_BYTES);
        /** Which of the eight pages counts; -1: none. */
        private int place = -1;
        private int number = 0;
        int slot;
        int version;
        int length;
        long hash;
        int staged;
        int stagedVersion;
        int stagedLength;
        long stagedHash;

        States(Flash flash, int factoryLength) {
            this.flash = flash;
            this.factoryLength = factoryLength;
            factoryHash = flash.programHash(0, factoryLength);
        }

        void install() {
            becomeFactory();
            compose(1);
            flash.burn(FIRST_PAGE, page, 0);
            look();
        }

        private void becomeFactory() {
            place = -1;
            number = 0;
            slot = 0;
            version = 1;
            length = factoryLength;
            hash = factoryHash;
            stage(NOTHING, 0, 0, 0);
        }

        void stage(int kind, int newVersion, int newLength, long newHash) {
            staged = kind;
            stagedVersion = newVersion;
            stagedLength = newLength;
            stagedHash = newHash;
        }

        void stageNothing() {
            stage(NOTHING, 0, 0, 0);
        }

        void confirmStaged() {
            slot = otherSlot();
            version = stagedVersion;
            length = stagedLength;
            hash = stagedHash;
            stageNothing();
        }

        int otherSlot() {
            return 1 - slot;
        }

        boolean stages(int otherVersion, int otherLength, long otherHash) {
            return stagedVersion == otherVersion && stagedLength == otherLength && stagedHash == otherHash;
        }

        /** What is told comes from flash again, as power may have failed before the page was written. */
        void store() {
            int sector = place < 0 ? 0 : place / SECTOR_PAGES;
            int next = nextBlank(sector);
            if (next < 0) {
                next = (1 - sector) * SECTOR_PAGES;
                flash.erase(STATE_SECTOR + 1 - sector);
            }
            compose(number + 1);
            flash.write(FIRST_PAGE + next, page, 0);
            look();
        }

        private int nextBlank(int sector) {
            for (int i = place + 1; i < (sector + 1) * SECTOR_PAGES; i++) {
                if (flash.isBlank(FIRST_PAGE + i)) {
                    return i;
                }
            }
            return -1;
        }

        private void compose(int newNumber) {
            page.empty();
            page.addNumber(newNumber, 4);
            page.addNumber(slot, 1);
            page.addNumber(version, 2);
            page.addNumber(length, 2);
            page.addNumber(hash, 6);
            page.addNumber(staged, 1);
            page.addNumber(stagedVersion, 2);
            page.addNumber(stagedLength, 2);
            page.addNumber(stagedHash, 6);
            page.addNumber(0, 2);
            page.addNumber(Row.checkOf(page.hash(0, CHECKED_BYTES)), 4);
        }

        private void look() {
            becomeFactory();
            for (int i = 0; i < STATE_PAGES; i++) {
                int start = (FIRST_PAGE + i) * PAGE_BYTES;
                long found = flash.cells.number(start, 4);
                if (found > number && found <= MOST_NUMBER && fits(start)) {
                    place = i;
                    number = (int) found;
                }
            }
            if (place >= 0) {
                load((FIRST_PAGE + place) * PAGE_BYTES);
            }
        }

        /** The two bytes ahead of the CHECK are written as 0s, but may be any: an erasing that power cut leaves such. */
        private boolean fits(int start) {
            Row cells = flash.cells;
            if (Row.checkOf(cells.hash(start, CHECKED_BYTES)) != cells.number(start + CHECKED_BYTES, 4)) {
                return false;
            }
            int kind = cells.at(start + 15);
            long nextVersion = cells.number(start + 16, 2);
            long nextLength = cells.number(start + 18, 2);
            boolean stagedFits = kind == NOTHING ? nextLength == 0
                    : kind <= TRIED && nextVersion > 0 && isProgramLength(nextLength);
            return stagedFits && cells.at(start + 4) <= 1 && cells.number(start + 5, 2) > 0
                    && isProgramLength(cells.number(start + 7, 2));
        }

        private static boolean isProgramLength(long bytes) {
            return bytes >= 1 && bytes <= MOST_PROGRAM;
        }

        private void load(int start) {
            Row cells = flash.cells;
            slot = cells.at(start + 4);
            version = (int) cells.number(start + 5, 2);
            length = (int) cells.number(start + 7, 2);
            hash = cells.number(start + 9, 6);
            staged = cells.at(start + 15);
            stagedVersion = (int) cells.number(start + 16, 2);
            stagedLength = (int) cells.number(start + 18, 2);
            stagedHash = cells.number(start + 20, 6);
        }

        int tell(int what) {
            switch (what) {
                case 3:
                    return slot;
                case 4:
                    return version;
                case 5:
                    return length;
                case 6:
                    return staged;
                case 7:
                    return stagedVersion;
                case 8:
                    return stagedLength;
                case 9:
                    return number;
                default:
                    return BAD;
            }
        }
    }

    /** Which keys have SIGNED which BODIES, these known by their DIGESTS. */
    private static final class Signatures {
        private static final int ROOM = 400;

        private final int[] keys = new int[ROOM];
        private final long[] hashes = new long[ROOM];
        private int count = 0;

        boolean has(int key, long hash) {
            for (int i = 0; i < count && i < ROOM; i++) {
                if (keys[i] == key && hashes[i] == hash) {
                    return true;
                }
            }
            return false;
        }

        /** Tells whether the signature is in the table then. */
        boolean add(int key, long hash) {
            if (has(key, hash)) {
                return true;
            }
            if (count >= ROOM) {
                return false;
            }
            keys[count] = key;
            hashes[count] = hash;
            count++;
            return true;
        }
    }

    /** The other side: its PLAN and its DRAFT. */
    private static final class Maker {
        private static final int NO_DRAFT = -1;

        private final Signatures signatures;
        private final int[] roleKeys = FACTORY_KEYS.clone();
        private final int[] thresholds = FACTORY_THRESHOLDS.clone();
        private int images = 0;
        private final int[] versions = new int[MOST_IMAGES];
        private final int[] lengths = new int[MOST_IMAGES];
        private final int[] seeds = new int[MOST_IMAGES];
        private final long[] hashes = new long[MOST_IMAGES];
        private final Row program = new Row(MOST_PROGRAM);
        private final Row body = new Row(MOST_BODY);
        private int draftRole = NO_DRAFT;
        private int draftKeys = 0;
        private final int[] lastVersions = {1, 1, 1, 1};
        private final long[] lastHashes = new long[ROLES];

        Maker(Signatures signatures) {
            this.signatures = signatures;
        }

        int planRole(int role, int keys, int threshold) {
            int count = Integer.bitCount(keys);
            if (role < ROOT || role >= ROLES || keys < 1 || keys >= 1 << KEYS || count > MOST_ROLE_KEYS) {
                return BAD;
            }
            if (threshold < 1 || threshold > count) {
                return BAD;
            }
            roleKeys[role] = keys;
            thresholds[role] = threshold;
            return 1;
        }

        int addImage(int version, int length, int seed) {
            int last = images > 0 && images <= MOST_IMAGES ? versions[images - 1] : 0;
            if (version <= last || version > MOST_VERSION || length < 1 || length > MOST_PROGRAM) {
                return BAD;
            }
            if (images >= MOST_IMAGES) {
                return FULL;
            }
            versions[images] = version;
            lengths[images] = length;
            seeds[images] = seed;
            program.empty();
            addProgram(program, images, 0, length);
            hashes[images] = program.hash(0, length);
            images++;
            return images;
        }

        private void addProgram(Row target, int image, int from, int to) {
            int seed = seeds[image];
            for (int i = from; i < to; i++) {
                target.add(seed + 7 * i + (i >> 6) * seed);
            }
        }

        int dropImages() {
            int dropped = images;
            images = 0;
            return dropped;
        }

        int compose(int role, int version, int end) {
            if (role < ROOT || role >= ROLES || version < 1 || version > MOST_VERSION || end < 0) {
                return BAD;
            }
            body.empty();
            body.addNumber(version, 2);
            body.addNumber(end, 4);
            if (role == ROOT) {
                addRoles();
            } else if (role == IMAGES) {
                addImages();
            } else {
                body.addNumber(lastVersions[role + 1], 2);
                body.addNumber(lastHashes[role + 1], 8);
            }
            draftRole = role;
            draftKeys = 0;
            lastVersions[role] = version;
            lastHashes[role] = body.hash(0, body.size());
            return body.size();
        }

        private void addRoles() {
            for (int role = ROOT; role < ROLES; role++) {
                body.add(thresholds[role]);
                body.addKeys(roleKeys[role]);
            }
        }

        private void addImages() {
            body.add(images);
            for (int i = 0; i < images && i < MOST_IMAGES; i++) {
                body.addNumber(versions[i], 2);
                body.addNumber(lengths[i], 2);
                body.addNumber(hashes[i], 8);
            }
        }

        int addKey(int key) {
            if (draftRole == NO_DRAFT || key < 0 || key >= KEYS) {
                return BAD;
            }
            if (!signatures.add(key, body.hash(0, body.size()))) {
                return FULL;
            }
            draftKeys |= 1 << key;
            return Integer.bitCount(draftKeys);
        }

        int copyDraft(Row tape) {
            if (draftRole == NO_DRAFT) {
                return BAD;
            }
            tape.empty();
            tape.add(draftRole);
            tape.addNumber(body.size(), 2);
            tape.addFrom(body, 0, body.size());
            tape.addKeys(draftKeys);
            return tape.size();
        }

        int copyPiece(int version, int k, Row tape) {
            for (int i = 0; i < images && i < MOST_IMAGES; i++) {
                // k is held against the length first, as k times 64 might wrap around.
                if (versions[i] == version && k >= 0 && k <= (lengths[i] - 1) / PIECE_BYTES) {
                    int from = k * PIECE_BYTES;
                    tape.empty();
                    addProgram(tape, i, from, Math.min(from + PIECE_BYTES, lengths[i]));
                    return tape.size();
                }
            }
            return BAD;
        }
    }

    /** What RUNS, and how it comes to run. */
    private static final class Loader {
        private final Flash flash;
        private final States states;
        int running = 0;
        boolean onTrial = false;

        Loader(Flash flash, States states) {
            this.flash = flash;
            this.states = states;
        }

        boolean isSettled() {
            return running > 0 && !onTrial;
        }

        void halt() {
            running = 0;
            onTrial = false;
        }

        int start() {
            halt();
            if (states.staged == READY) {
                return startTrial();
            }
            if (states.staged == TRIED) {
                states.stageNothing();
                states.store();
            }
            return startConfirmed();
        }

        private int startTrial() {
            states.staged = TRIED;
            states.store();
            if (flash.isDown()) {
                return DOWN;
            }
            if (flash.programHash(states.otherSlot(), states.stagedLength) == states.stagedHash) {
                running = states.stagedVersion;
                onTrial = true;
                return running;
            }
            states.stageNothing();
            states.store();
            return startConfirmed();
        }

        private int startConfirmed() {
            if (flash.isDown()) {
                return DOWN;
            }
            if (flash.programHash(states.slot, states.length) != states.hash) {
                return NONE;
            }
            running = states.version;
            return running;
        }

        int confirm() {
            states.confirmStaged();
            states.store();
            onTrial = false;
            return running;
        }

        int reject() {
            states.stageNothing();
            states.store();
            halt();
            return running;
        }
    }

    /** An UPDATE: what it AWAITS, and what it does with what comes. */
    private static final class Update {
        private final Flash flash;
        private final Shelf[] shelves;
        private final States states;
        private final Signatures signatures;
        private final Paper came = new Paper();
        private final Row noDocument = new Row(0);
        int awaited = 0;
        int piece = 0;
        int clock = 0;
        int error = 0;

        Update(Flash flash, Shelf[] shelves, States states, Signatures signatures) {
            this.flash = flash;
            this.shelves = shelves;
            this.states = states;
            this.signatures = signatures;
        }

        boolean goesOn() {
            return awaited != 0;
        }

        int start(int newClock) {
            error = 0;
            clock = newClock;
            awaited = AWAITS_ROOT;
            return awaited;
        }

        void giveUp() {
            awaited = 0;
            piece = 0;
            clock = 0;
        }

        private int fail(int newError) {
            giveUp();
            error = newError;
            return -10 - newError;
        }

        private Paper trustedPaper(int role) {
            return shelves[role].paper();
        }

        int wantedVersion() {
            switch (awaited) {
                case AWAITS_ROOT:
                    return trustedPaper(ROOT).version + 1;
                case LIST + 1:
                    return trustedPaper(TIME).toldVersion;
                case IMAGES + 1:
                    return trustedPaper(LIST).toldVersion;
                case AWAITS_PIECE:
                    return states.stagedVersion;
                default:
                    return 0;
            }
        }

        int takeRefusal() {
            if (awaited != AWAITS_ROOT) {
                return fail(REFUSED);
            }
            if (trustedPaper(ROOT).end <= clock) {
                return fail(ENDED);
            }
            awaited = AWAITS_TIME;
            return awaited;
        }

        int takeRoot(Row tape) {
            Paper root = trustedPaper(ROOT);
            if (!came.read(tape, 0, tape.size()) || came.role != ROOT) {
                return fail(MALFORMED);
            }
            if (came.version != root.version + 1) {
                return fail(WRONG_VERSION);
            }
            if (!hasRole(came, root, ROOT) || !hasRole(came, came, ROOT)) {
                return fail(TOO_FEW_KEYS);
            }
            if (!came.givesLike(root, TIME) || !came.givesLike(root, LIST)) {
                for (int role = TIME; role <= LIST; role++) {
                    if (shelves[role].holds()) {
                        shelves[role].keep(noDocument);
                    }
                }
            }
            shelves[ROOT].keep(came.bytes);
            return awaited;
        }

        private boolean hasRole(Paper paper, Paper root, int role) {
            int fitting = 0;
            for (int key = 0; key < KEYS; key++) {
                boolean counts = (paper.keys & root.roleKeys[role] & 1 << key) != 0;
                if (counts && signatures.has(key, paper.bodyHash)) {
                    fitting++;
                }
            }
            return fitting >= root.thresholds[role];
        }

        /** Goes on with what is TRUSTED already as long as that is what the DOCUMENT before it tells. */
        int takePaper(Row tape) {
            int first = awaited - 1;
            if (!came.read(tape, 0, tape.size()) || came.role != first) {
                return fail(MALFORMED);
            }
            Paper paper = came;
            for (int role = first; role <= IMAGES; role++) {
                int wrong = judge(paper, role);
                if (wrong != 0) {
                    return fail(wrong);
                }
                if (!shelves[role].holdsBodyOf(paper)) {
                    shelves[role].keep(paper.bytes);
                }
                if (flash.isDown()) {
                    return DOWN;
                }
                if (role < IMAGES) {
                    if (!isTrustedAsTold(role + 1)) {
                        awaited = role + 2;
                        return awaited;
                    }
                    paper = trustedPaper(role + 1);
                }
            }
            return chooseImage();
        }

        private int judge(Paper paper, int role) {
            boolean isTold = role != TIME;
            Paper teller = trustedPaper(isTold ? role - 1 : role);
            boolean hasOlder = shelves[role].holds();
            Paper older = trustedPaper(role);
            if (isTold && paper.bodyHash != teller.toldHash) {
                return WRONG_DIGEST;
            }
            if (!hasRole(paper, trustedPaper(ROOT), role)) {
                return TOO_FEW_KEYS;
            }
            if (isTold ? paper.version != teller.toldVersion : hasOlder && paper.version < older.version) {
                return WRONG_VERSION;
            }
            if (role != IMAGES && hasOlder && paper.toldVersion < older.toldVersion) {
                return OLDER;
            }
            return paper.end <= clock ? ENDED : 0;
        }

        private boolean isTrustedAsTold(int role) {
            return shelves[role].holds() && trustedPaper(role).bodyHash == trustedPaper(role - 1).toldHash;
        }

        private int chooseImage() {
            Paper list = trustedPaper(IMAGES);
            int last = list.images - 1;
            if (last < 0 || last >= MOST_IMAGES || list.imageVersions[last] <= states.version) {
                return fail(NOTHING_NEWER);
            }
            int version = list.imageVersions[last];
            int length = list.imageLengths[last];
            long hash = Flash.lowest(list.imageHashes[last]);
            boolean isStaged = states.stages(version, length, hash);
            if (isStaged && states.staged == READY) {
                giveUp();
                return 0;
            }
            if (isStaged && states.staged == LOADING) {
                piece = flash.lastWrittenPiece(states.otherSlot(), length);
            } else {
                flash.eraseSlot(states.otherSlot());
                states.stage(LOADING, version, length, hash);
                states.store();
                piece = 0;
            }
            awaited = AWAITS_PIECE;
            return awaited;
        }

        int takePiece(Row tape) {
            int from = piece * PIECE_BYTES;
            int left = states.stagedLength - from;
            if (tape.size() != Math.min(left, PIECE_BYTES)) {
                return fail(WRONG_LENGTH);
            }
            flash.writeAll((Flash.slotStart(states.otherSlot()) + from) / PAGE_BYTES, tape);
            if (flash.isDown()) {
                return DOWN;
            }
            if (left > PIECE_BYTES) {
                piece++;
                return awaited;
            }
            return finishProgram();
        }

        private int finishProgram() {
            boolean isAsTold = flash.programHash(states.otherSlot(), states.stagedLength) == states.stagedHash;
            if (isAsTold) {
                states.staged = READY;
            } else {
                states.stageNothing();
            }
            states.store();
            if (flash.isDown()) {
                return DOWN;
            }
            if (!isAsTold) {
                return fail(WRONG_PROGRAM);
            }
            giveUp();
            return 0;
        }
    }
}
