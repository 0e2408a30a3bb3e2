import java.util.ArrayList;
import java.util.List;
import java.util.function.ToLongFunction;

/**
 * A ShootDown as the tests call it. It remembers its calls, so that another object can be brought as far, and tells
 * when a test makes more of them than the document promises anything of.
 */
final class Subject implements Face {
    static final int MOST_CALLS = 512;

    private final ShootDown it = new ShootDown();
    private final List<ToLongFunction<ShootDown>> calls = new ArrayList<>();

    /** A new one of n cores. */
    static Subject ofCores(int n) {
        Subject x = new Subject();
        x.cores(n);
        return x;
    }

    /** The first pages of space 0 are mapped, each to the frame of its own number, and writable. */
    static Subject mapped(int cores, int pages) {
        Subject x = ofCores(cores);
        for (int page = 0; page < pages; page++) {
            x.map(0, page, page, true);
        }
        return x;
    }

    private long call(ToLongFunction<ShootDown> one) {
        calls.add(one);
        if (calls.size() == MOST_CALLS + 1) {
            Due.due("a test keeps to the calls that are promised", false);
            new Throwable().printStackTrace(System.out);
        }
        return one.applyAsLong(it);
    }

    /** Another object, after the same calls. */
    Subject copy() {
        Subject other = new Subject();
        for (ToLongFunction<ShootDown> one : calls) {
            other.call(one);
        }
        return other;
    }

    int callsLeft() {
        return MOST_CALLS - calls.size();
    }

    @Override
    public int cores(int n) {
        return (int) call(x -> x.cores(n));
    }

    @Override
    public int map(int s, int page, int frame, boolean writable) {
        return (int) call(x -> x.map(s, page, frame, writable));
    }

    @Override
    public int entry(int s, int page) {
        return (int) call(x -> x.entry(s, page));
    }

    @Override
    public int enter(int c, int s) {
        return (int) call(x -> x.enter(c, s));
    }

    @Override
    public int sleep(int c) {
        return (int) call(x -> x.sleep(c));
    }

    @Override
    public int wake(int c) {
        return (int) call(x -> x.wake(c));
    }

    @Override
    public int look(int c, int page, boolean toWrite) {
        return (int) call(x -> x.look(c, page, toWrite));
    }

    @Override
    public int how() {
        return (int) call(ShootDown::how);
    }

    @Override
    public int note(int c, int k, int what) {
        return (int) call(x -> x.note(c, k, what));
    }

    @Override
    public int wasSo(int c, int k) {
        return (int) call(x -> x.wasSo(c, k));
    }

    @Override
    public int unmap(int c, int s, int page) {
        return (int) call(x -> x.unmap(c, s, page));
    }

    @Override
    public int remap(int c, int s, int page, int frame, boolean writable) {
        return (int) call(x -> x.remap(c, s, page, frame, writable));
    }

    @Override
    public int clear(int c, int s) {
        return (int) call(x -> x.clear(c, s));
    }

    @Override
    public int take(int c) {
        return (int) call(x -> x.take(c));
    }

    @Override
    public int rounds(int c, int n) {
        return (int) call(x -> x.rounds(c, n));
    }

    @Override
    public int shoot(int k, int what) {
        return (int) call(x -> x.shoot(k, what));
    }

    @Override
    public int underWay(int c) {
        return (int) call(x -> x.underWay(c));
    }

    @Override
    public int core(int c, int what) {
        return (int) call(x -> x.core(c, what));
    }

    @Override
    public int history(int s, int page, int k) {
        return (int) call(x -> x.history(s, page, k));
    }

    @Override
    public int seen() {
        return (int) call(ShootDown::seen);
    }

    @Override
    public int danger(int s, int page) {
        return (int) call(x -> x.danger(s, page));
    }

    @Override
    public int count(int what) {
        return (int) call(x -> x.count(what));
    }

    @Override
    public long digest() {
        return call(ShootDown::digest);
    }
}
