import java.util.function.ToLongFunction;

/** A call that can be made of one object after the other, and told. */
record Call(String text, ToLongFunction<Face> run) {
    static Call cores(int n) {
        return of("cores", x -> x.cores(n), n);
    }

    static Call map(int s, int page, int frame, boolean writable) {
        return of("map", x -> x.map(s, page, frame, writable), s, page, frame, writable);
    }

    static Call entry(int s, int page) {
        return of("entry", x -> x.entry(s, page), s, page);
    }

    static Call enter(int c, int s) {
        return of("enter", x -> x.enter(c, s), c, s);
    }

    static Call sleep(int c) {
        return of("sleep", x -> x.sleep(c), c);
    }

    static Call wake(int c) {
        return of("wake", x -> x.wake(c), c);
    }

    static Call look(int c, int page, boolean toWrite) {
        return of("look", x -> x.look(c, page, toWrite), c, page, toWrite);
    }

    static Call how() {
        return of("how", Face::how);
    }

    static Call note(int c, int k, int what) {
        return of("note", x -> x.note(c, k, what), c, k, what);
    }

    static Call wasSo(int c, int k) {
        return of("wasSo", x -> x.wasSo(c, k), c, k);
    }

    static Call unmap(int c, int s, int page) {
        return of("unmap", x -> x.unmap(c, s, page), c, s, page);
    }

    static Call remap(int c, int s, int page, int frame, boolean writable) {
        return of("remap", x -> x.remap(c, s, page, frame, writable), c, s, page, frame, writable);
    }

    static Call clear(int c, int s) {
        return of("clear", x -> x.clear(c, s), c, s);
    }

    static Call take(int c) {
        return of("take", x -> x.take(c), c);
    }

    static Call rounds(int c, int n) {
        return of("rounds", x -> x.rounds(c, n), c, n);
    }

    static Call shoot(int k, int what) {
        return of("shoot", x -> x.shoot(k, what), k, what);
    }

    static Call underWay(int c) {
        return of("underWay", x -> x.underWay(c), c);
    }

    static Call core(int c, int what) {
        return of("core", x -> x.core(c, what), c, what);
    }

    static Call history(int s, int page, int k) {
        return of("history", x -> x.history(s, page, k), s, page, k);
    }

    static Call seen() {
        return of("seen", Face::seen);
    }

    static Call danger(int s, int page) {
        return of("danger", x -> x.danger(s, page), s, page);
    }

    static Call count(int what) {
        return of("count", x -> x.count(what), what);
    }

    static Call digest() {
        return of("digest", Face::digest);
    }

    long of(Face x) {
        return run.applyAsLong(x);
    }

    private static Call of(String name, ToLongFunction<Face> run, Object... numbers) {
        StringBuilder text = new StringBuilder(name).append('(');
        for (int i = 0; i < numbers.length; i++) {
            text.append(i == 0 ? "" : ", ").append(numbers[i]);
        }
        return new Call(text.append(')').toString(), run);
    }
}
