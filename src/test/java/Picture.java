/** All that is on flash, and what the device tells of itself, as one number: it is the same when nothing was changed. */
final class Picture {
    private Picture() { }

    static long of(Device x) {
        long sum = 0;
        for (int sector = 0; sector < 26; sector++) {
            for (int i = 0; i < 128; i++) {
                sum = 31 * sum + x.flash(sector, i);
            }
        }
        for (int what = 0; what <= 12; what++) {
            sum = 31 * sum + x.told(what);
        }
        for (int role = 0; role < 4; role++) {
            for (int what = 0; what <= 9; what++) {
                sum = 31 * sum + x.trusted(role, what, 0);
            }
        }
        return sum;
    }
}
