/** Promises 1 (a new object), 21 told, 22 trusted and 23 flash, as the factory leaves them; the constants. */
public final class NewObjectTest {
    private static final int BAD = FlashTrust.BAD, NONE = FlashTrust.NONE;

    public static void main(String[] args) {
        Due.is("BAD", FlashTrust.BAD, -1);
        Due.is("NONE", FlashTrust.NONE, -2);
        Due.is("DOWN", FlashTrust.DOWN, -3);
        Due.is("STATE", FlashTrust.STATE, -4);
        Due.is("FULL", FlashTrust.FULL, -5);
        isFactory(1, 1);
        isFactory(100, 100);
        isFactory(1024, 1024);
        isFactory(0, 1);
        isFactory(-7, 1);
        isFactory(Integer.MIN_VALUE, 1);
        isFactory(1025, 1024);
        isFactory(Integer.MAX_VALUE, 1024);
        factoryRoot();
        outside();
        Due.close("NewObjectTest");
    }

    private static void isFactory(int n, int length) {
        Device x = new Device(n);
        String name = "new FlashTrust(" + n + ")";
        int[] told = {0, 0, 0, 0, 1, length, 0, 0, 0, 1, 0, 0, -1, 0, 0};
        for (int i = 0; i < told.length; i++) {
            Due.is(name + ", told(" + i + ")", x.told(i), told[i]);
        }
        Due.is(name + ", no tape", x.byteOf(0), BAD);
        Due.is(name + ", no DRAFT", x.show(), BAD);
        Bytes program = Bytes.factoryProgram(length);
        for (int i = 0; i < 1024; i++) {
            int want = i < length ? program.all.get(i) : 255;
            Due.is(name + ", byte " + i + " of slot 0", x.flash(10 + i / 128, i % 128), want);
        }
        Bytes.state(1, new int[] {0, 1, length, 0, 0, 0}, program.digest(), 0).padTo(128)
                .isOnFlash(name + ", STATE", x, 8, 0);
        for (int sector = 0; sector < 26; sector++) {
            if (sector < 8 || sector == 9 || sector > 17) {
                new Bytes().padTo(128).isOnFlash(name + ", erased", x, sector, 0);
            }
        }
    }

    private static void factoryRoot() {
        Device x = new Device(50);
        Due.is("VERSION", x.trusted(0, 0, 0), 1);
        Due.is("END", x.trusted(0, 1, 0), 1000);
        Due.is("no keys of its own", x.trusted(0, 2, 0), 0);
        Due.is("no record", x.trusted(0, 3, 0), 0);
        int[] keys = {7, 8, 16, 96};
        int[] thresholds = {2, 1, 1, 2};
        for (int role = 0; role < 4; role++) {
            Due.is("keys of " + role, x.trusted(0, 4, role), keys[role]);
            Due.is("THRESHOLD of " + role, x.trusted(0, 5, role), thresholds[role]);
        }
        for (int role = 1; role < 4; role++) {
            for (int what = -1; what <= 10; what++) {
                int want = what == 0 ? NONE : what == 3 ? 0 : BAD;
                Due.is("trusted(" + role + ", " + what + ", 0)", x.trusted(role, what, 0), want);
            }
        }
    }

    private static void outside() {
        Device x = new Device(50);
        Due.is("told(-1)", x.told(-1), BAD);
        Due.is("told(15)", x.told(15), BAD);
        Due.is("trusted of role -1", x.trusted(-1, 0, 0), BAD);
        Due.is("trusted of role 4", x.trusted(4, 3, 0), BAD);
        Due.is("keys of role -1", x.trusted(0, 4, -1), BAD);
        Due.is("keys of role 4", x.trusted(0, 4, 4), BAD);
        Due.is("THRESHOLD of role -1", x.trusted(0, 5, -1), BAD);
        Due.is("THRESHOLD of role 4", x.trusted(0, 5, 4), BAD);
        for (int what = 6; what <= 10; what++) {
            Due.is("ROOT has no " + what, x.trusted(0, what, 0), BAD);
        }
        Due.is("trusted(0, -1, 0)", x.trusted(0, -1, 0), BAD);
        Due.is("sector -1", x.flash(-1, 0), BAD);
        Due.is("sector 26", x.flash(26, 0), BAD);
        Due.is("byte -1", x.flash(8, -1), BAD);
        Due.is("byte 128", x.flash(8, 128), BAD);
        Due.is("a far sector", x.flash(1 << 25, 0), BAD);
        Due.is("the last byte", x.flash(25, 127), 255);
    }
}
