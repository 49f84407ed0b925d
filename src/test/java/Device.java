import java.util.ArrayList;
import java.util.List;
import java.util.function.ToIntFunction;

/**
 * A FlashTrust that tests may ask as much as they like. The document promises 512 calls of an object: when these are
 * used up, the calls that change something are done again on a new one, and those that only tell are left out.
 */
final class Device {
    private static final int MOST_CALLS = 512;

    private final int n;
    private final int mostCalls;
    private final List<ToIntFunction<FlashTrust>> changes = new ArrayList<>();
    private FlashTrust x;
    private int calls = 0;

    Device(int n) {
        this(n, MOST_CALLS);
    }

    private Device(int n, int mostCalls) {
        this.n = n;
        this.mostCalls = mostCalls;
        x = new FlashTrust(n);
    }

    /** For what holds of later calls, too: that none throws. */
    static Device withoutEnd(int n) {
        return new Device(n, Integer.MAX_VALUE);
    }

    int feed(int a, int b, int c, int d, int e) {
        return change(y -> y.feed(a, b, c, d, e));
    }

    int end(int count) {
        return change(y -> y.end(count));
    }

    int byteOf(int i) {
        return told().byteOf(i);
    }

    int plan(int role, int keys, int threshold) {
        return change(y -> y.plan(role, keys, threshold));
    }

    int image(int version, int length, int seed) {
        return change(y -> y.image(version, length, seed));
    }

    int clear() {
        return change(FlashTrust::clear);
    }

    int draft(int role, int version, int end) {
        return change(y -> y.draft(role, version, end));
    }

    int sign(int key) {
        return change(y -> y.sign(key));
    }

    int show() {
        return change(FlashTrust::show);
    }

    int piece(int version, int k) {
        return change(y -> y.piece(version, k));
    }

    int spoil(int i, int mask) {
        return change(y -> y.spoil(i, mask));
    }

    int begin(int clock) {
        return change(y -> y.begin(clock));
    }

    int answer() {
        return change(FlashTrust::answer);
    }

    int refuse() {
        return change(FlashTrust::refuse);
    }

    int awaits(int what) {
        return told().awaits(what);
    }

    int stop() {
        return change(FlashTrust::stop);
    }

    int power(int count, int mask) {
        return change(y -> y.power(count, mask));
    }

    int boot() {
        return change(FlashTrust::boot);
    }

    int test(boolean passed) {
        return change(y -> y.test(passed));
    }

    int told(int what) {
        return told().told(what);
    }

    int trusted(int role, int what, int k) {
        return told().trusted(role, what, k);
    }

    int flash(int sector, int i) {
        return told().flash(sector, i);
    }

    long digest() {
        return told().digest();
    }

    /** For a change that is no call of the face; it is done again with the others. */
    int inside(ToIntFunction<FlashTrust> change) {
        return change(change);
    }

    private FlashTrust told() {
        count();
        return x;
    }

    private int change(ToIntFunction<FlashTrust> call) {
        count();
        changes.add(call);
        return call.applyAsInt(x);
    }

    private void count() {
        if (calls == mostCalls) {
            Due.holds("a test changes an object by fewer than 512 calls", changes.size() < mostCalls);
            x = new FlashTrust(n);
            calls = changes.size();
            for (ToIntFunction<FlashTrust> call : changes) {
                call.applyAsInt(x);
            }
        }
        calls++;
    }
}
