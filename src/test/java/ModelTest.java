import java.util.ArrayList;
import java.util.List;
import java.util.function.ToLongFunction;

/** Long runs of calls on ShootDown and on a second, plain program of the document: each answer is the same. */
public final class ModelTest {
    private static final int RUNS = 3000;
    private static final int CALLS = 512;
    private static final int KINDS = 24;
    private static final int[] WILD = {-1, 4, 7, 16, 61, 256, Integer.MIN_VALUE, Integer.MAX_VALUE, -8, 12};

    private static long state;

    private ModelTest() {
    }

    public static void main(String[] args) {
        for (int run = 1; run <= RUNS; run++) {
            state = run * 0x9E3779B97F4A7C15L;
            run(run);
        }
        Due.finish();
    }

    private static void run(int run) {
        ShootDown x = new ShootDown();
        Model model = new Model();
        boolean wild = run % 3 == 0;
        int pages = 1 + below(run % 2 == 0 ? 3 : 16);
        for (int i = 0; i < CALLS; i++) {
            int kind = i == 0 ? 1 : pick(run);
            int[] a = arguments(kind, pages);
            if (wild && below(6) == 0) {
                a[below(a.length)] = WILD[below(WILD.length)];
            }
            boolean flag = below(2) == 0;
            long got = ofProgram(x, kind, a, flag);
            long want = model.answer(kind, a, flag);
            if (got != want) {
                Due.due("run " + run + ", call " + i + ", kind " + kind + " " + java.util.Arrays.toString(a) + " " + flag,
                        got, want);
                return;
            }
            if (i % 8 == 0) {
                Due.due("run " + run + ", digest after call " + i, x.digest(), model.digest());
            }
        }
    }

    /** Mostly calls that change something; cores() rarely, as it begins again. */
    private static int pick(int run) {
        int n = below(100);
        if (n < 30) {
            return 8;
        }
        if (n < 42) {
            return 3;
        }
        if (n < 62) {
            return run % 4 == 0 ? 13 : 12 + below(3) % 2;
        }
        if (n < 72) {
            return 15;
        }
        return n < 99 ? 4 + below(21) : 2 + below(23);
    }

    private static int[] arguments(int kind, int pages) {
        int c = below(4);
        int s = below(3) == 0 ? below(3) : 0;
        int page = below(pages);
        switch (kind) {
            case 1:
            case 2:
                return new int[] {1 + below(4)};
            case 3:
                return new int[] {s, page, below(3) * 127};
            case 5:
            case 14:
                return new int[] {c, s};
            case 8:
                return new int[] {c, page};
            case 10:
                return new int[] {c, below(4), below(6)};
            case 11:
                return new int[] {c, below(4)};
            case 12:
                return new int[] {c, s, page};
            case 13:
                return new int[] {c, s, page, below(4)};
            case 16:
                return new int[] {c, 1 + below(5)};
            case 17:
                return new int[] {below(8), below(13)};
            case 19:
                return new int[] {c, below(8)};
            case 20:
                return new int[] {s, page, below(21)};
            case 4:
            case 22:
                return new int[] {s, page};
            case 23:
                return new int[] {below(14)};
            default:
                return new int[] {c};
        }
    }

    private static int below(int n) {
        state = state * 6364136223846793005L + 1442695040888963407L;
        return (int) ((state >>> 33) % n);
    }

    private static long ofProgram(ShootDown x, int kind, int[] a, boolean flag) {
        switch (kind) {
            case 1:
            case 2:
                return x.cores(a[0]);
            case 3:
                return x.map(a[0], a[1], a[2], flag);
            case 4:
                return x.entry(a[0], a[1]);
            case 5:
                return x.enter(a[0], a[1]);
            case 6:
                return x.sleep(a[0]);
            case 7:
                return x.wake(a[0]);
            case 8:
                return x.look(a[0], a[1], flag);
            case 9:
                return x.how();
            case 10:
                return x.note(a[0], a[1], a[2]);
            case 11:
                return x.wasSo(a[0], a[1]);
            case 12:
                return x.unmap(a[0], a[1], a[2]);
            case 13:
                return x.remap(a[0], a[1], a[2], a[3], flag);
            case 14:
                return x.clear(a[0], a[1]);
            case 15:
                return x.take(a[0]);
            case 16:
                return x.rounds(a[0], a[1]);
            case 17:
                return x.shoot(a[0], a[1]);
            case 18:
                return x.underWay(a[0]);
            case 19:
                return x.core(a[0], a[1]);
            case 20:
                return x.history(a[0], a[1], a[2]);
            case 21:
                return x.seen();
            case 22:
                return x.danger(a[0], a[1]);
            case 23:
                return x.count(a[0]);
            default:
                return x.digest();
        }
    }

    private record So(int frame, boolean writable) {
        int told() {
            return frame + (writable ? 256 : 0);
        }
    }

    private record Place(int space, int page) {
        boolean covers(Place other) {
            return space == other.space && (page == -1 || page == other.page);
        }
    }

    private record Past(So so, int since) {
    }

    private record Note(Place place, So so, int taken) {
    }

    private static final class Shoot {
        private int by;
        private Place place;
        private int generation;
        private int begun;
        private int done = -1;
        private final List<Integer> waited = new ArrayList<>();
    }

    private static final class Core {
        private int space;
        private boolean awake = true;
        private final List<Note> notes = new ArrayList<>();
        private final List<Shoot> queue = new ArrayList<>();
        private final int[] generations = new int[3];
    }

    /** The document's words, one after the other; every answer is found anew from the lists. */
    private static final class Model {
        private List<Core> cores;
        private List<Shoot> shoots;
        private List<List<Past>> pasts;
        private int[] generations;
        private int[] counts;
        private int time;
        private int how;
        private int seen;

        private Model() {
            begin(2);
        }

        private void begin(int n) {
            cores = new ArrayList<>();
            for (int i = 0; i < n; i++) {
                cores.add(new Core());
            }
            shoots = new ArrayList<>();
            pasts = new ArrayList<>();
            for (int i = 0; i < 48; i++) {
                List<Past> past = new ArrayList<>();
                past.add(new Past(null, 0));
                pasts.add(past);
            }
            generations = new int[3];
            counts = new int[10];
            time = 0;
            how = 0;
            seen = 0;
        }

        private List<Past> past(Place p) {
            return pasts.get(p.space * 16 + p.page);
        }

        private So now(Place p) {
            List<Past> past = past(p);
            return past.get(past.size() - 1).so;
        }

        private void become(Place p, So so) {
            past(p).add(new Past(so, time));
            if (past(p).size() > 20) {
                past(p).remove(0);
            }
        }

        private boolean stale(Note n) {
            return !n.so.equals(now(n.place));
        }

        private Shoot underWay(int c) {
            for (Shoot k : shoots) {
                if (k.by == c && !k.waited.isEmpty()) {
                    return k;
                }
            }
            return null;
        }

        private boolean in(int n, int least, int most) {
            return n >= least && n <= most;
        }

        private boolean c(int c) {
            return in(c, 0, cores.size() - 1);
        }

        private boolean page(int s, int page) {
            return in(s, 0, 2) && in(page, 0, 15);
        }

        private boolean busy(int c) {
            return !cores.get(c).awake || underWay(c) != null;
        }

        private int forget(Core core, Place called) {
            int before = core.notes.size();
            core.notes.removeIf(n -> called.covers(n.place));
            return before - core.notes.size();
        }

        private int take(int c) {
            Core core = cores.get(c);
            if (core.queue.isEmpty()) {
                return -1;
            }
            Shoot call = core.queue.remove(0);
            forget(core, call.place);
            int s = call.place.space;
            core.generations[s] = Math.max(core.generations[s], call.generation);
            call.waited.remove((Integer) c);
            if (call.waited.isEmpty()) {
                call.done = time;
            }
            counts[8]++;
            return shoots.indexOf(call);
        }

        private int takeAll(int c) {
            int n = 0;
            while (take(c) != -1) {
                n++;
            }
            return n;
        }

        private int arrive(int c) {
            Core core = cores.get(c);
            int n = 0;
            if (core.generations[core.space] < generations[core.space]) {
                n = forget(core, new Place(core.space, -1));
                core.generations[core.space] = generations[core.space];
            }
            counts[9] += n;
            return n;
        }

        private int shoot(int c, Place place, So so) {
            Core core = cores.get(c);
            List<Place> changed = new ArrayList<>();
            for (int page = 0; page < 16; page++) {
                Place p = new Place(place.space, page);
                if (place.covers(p) && now(p) != null) {
                    changed.add(p);
                }
            }
            if (busy(c) || changed.isEmpty()) {
                return -103;
            }
            if (shoots.size() == 40) {
                return -104;
            }
            time++;
            for (Place p : changed) {
                become(p, so);
            }
            int s = place.space;
            boolean behind = core.generations[s] < generations[s];
            forget(core, behind ? new Place(s, -1) : place);
            generations[s]++;
            core.generations[s] = generations[s];
            Shoot k = new Shoot();
            k.by = c;
            k.place = place;
            k.generation = generations[s];
            k.begun = time;
            for (int other = 0; other < cores.size(); other++) {
                if (other != c && cores.get(other).awake && cores.get(other).space == s) {
                    k.waited.add(other);
                    cores.get(other).queue.add(k);
                }
            }
            k.done = k.waited.isEmpty() ? time : -1;
            shoots.add(k);
            return shoots.size() - 1;
        }

        private int look(int c, int page, boolean toWrite) {
            Core core = cores.get(c);
            Place p = new Place(core.space, page);
            time++;
            for (Note n : core.notes) {
                if (n.place.equals(p) && (n.so.writable || !toWrite)) {
                    how = stale(n) ? 2 : 1;
                    counts[4]++;
                    counts[5] += how - 1;
                    return n.so.frame;
                }
            }
            forget(core, p);
            So so = now(p);
            if (so == null || toWrite && !so.writable) {
                how = 4;
                counts[7]++;
                return -105;
            }
            how = 3;
            counts[6]++;
            core.notes.add(new Note(p, so, time));
            if (core.notes.size() > 4) {
                core.notes.remove(0);
            }
            return so.frame;
        }

        private int note(int c, int k, int what) {
            Note n = cores.get(c).notes.get(k);
            int[] told = {n.place.space, n.place.page, n.so.frame, n.so.writable ? 1 : 0, n.taken, stale(n) ? 1 : 0};
            return in(what, 0, 5) ? told[what] : -102;
        }

        private int wasSo(int c, int k) {
            Note n = cores.get(c).notes.get(k);
            List<Past> past = past(n.place);
            for (int t = n.taken; t <= time; t++) {
                Past then = null;
                for (Past one : past) {
                    then = one.since <= t ? one : then;
                }
                if (then != null && n.so.equals(then.so)) {
                    return 1;
                }
            }
            return 0;
        }

        private int told(Shoot k, int what) {
            if (what < 0 || what >= 8 + cores.size()) {
                return -102;
            }
            if (what >= 8) {
                return k.waited.contains(what - 8) ? 1 : 0;
            }
            int done = k.waited.isEmpty() ? 1 : 0;
            int[] told = {k.by, k.place.space, k.place.page, k.generation, k.begun, done, k.done, k.waited.size()};
            return told[what];
        }

        private int told(Core core, int what) {
            int[] told = {core.space, core.awake ? 1 : 0, core.notes.size(), core.queue.size(),
                core.generations[0], core.generations[1], core.generations[2]};
            return in(what, 0, 6) ? told[what] : -102;
        }

        private int history(Place p, int k) {
            if (!in(k, 0, past(p).size() - 1)) {
                return -1;
            }
            So so = past(p).get(k).so;
            seen = so == null ? -1 : so.told();
            return past(p).get(k).since;
        }

        private int danger(Place p) {
            for (Core core : cores) {
                for (Note n : core.notes) {
                    if (n.place.equals(p) && stale(n) && core.awake && core.space == p.space) {
                        return 1;
                    }
                }
            }
            return 0;
        }

        private int count(int what) {
            if (!in(what, 0, 12)) {
                return -102;
            }
            if (what >= 10) {
                return generations[what - 10];
            }
            counts[0] = cores.size();
            counts[1] = time;
            counts[2] = shoots.size();
            counts[3] = (int) shoots.stream().filter(k -> k.waited.isEmpty()).count();
            return counts[what];
        }

        private int rounds(int c, int n) {
            int taken = 0;
            for (int i = 0; i < n; i++) {
                time++;
                taken += take((c + i) % cores.size()) == -1 ? 0 : 1;
            }
            return taken;
        }

        private int tick(ToLongFunction<Model> call) {
            time++;
            return (int) call.applyAsLong(this);
        }

        private int leave(int c, int s) {
            int taken = takeAll(c);
            if (s == -1) {
                cores.get(c).awake = false;
                return taken;
            }
            cores.get(c).space = s;
            return arrive(c);
        }

        private int rouse(int c) {
            cores.get(c).awake = true;
            return arrive(c);
        }

        private int place(int[] a, int frame, boolean writable) {
            Place p = new Place(a[0], a[1]);
            if (now(p) != null) {
                return -103;
            }
            time++;
            become(p, new So(frame, writable));
            return 1;
        }

        private long answer(int kind, int[] a, boolean flag) {
            switch (kind) {
                case 1:
                case 2:
                    int before = cores.size();
                    if (in(a[0], 1, 4)) {
                        begin(a[0]);
                    }
                    return in(a[0], 1, 4) ? before : -102;
                case 3:
                    return !page(a[0], a[1]) ? -101 : !in(a[2], 0, 255) ? -102 : place(a, a[2], flag);
                case 4:
                    if (!page(a[0], a[1])) {
                        return -101;
                    }
                    So so = now(new Place(a[0], a[1]));
                    return so == null ? -1 : so.told();
                case 5:
                    return !c(a[0]) || !in(a[1], 0, 2) ? -101
                        : busy(a[0]) || cores.get(a[0]).space == a[1] ? -103 : tick(m -> m.leave(a[0], a[1]));
                case 6:
                    return !c(a[0]) ? -101 : busy(a[0]) ? -103 : tick(m -> m.leave(a[0], -1));
                case 7:
                    return !c(a[0]) ? -101 : cores.get(a[0]).awake ? -103 : tick(m -> m.rouse(a[0]));
                case 8:
                    return !c(a[0]) || !in(a[1], 0, 15) ? -101 : !cores.get(a[0]).awake ? -103 : look(a[0], a[1], flag);
                case 9:
                    return how;
                case 10:
                case 11:
                    if (!c(a[0]) || !in(a[1], 0, cores.get(a[0]).notes.size() - 1)) {
                        return -101;
                    }
                    return kind == 10 ? note(a[0], a[1], a[2]) : wasSo(a[0], a[1]);
                case 12:
                    return !c(a[0]) || !page(a[1], a[2]) ? -101 : shoot(a[0], new Place(a[1], a[2]), null);
                case 13:
                    return !c(a[0]) || !page(a[1], a[2]) ? -101 : !in(a[3], 0, 255) ? -102
                        : shoot(a[0], new Place(a[1], a[2]), new So(a[3], flag));
                default:
                    return answerMore(kind, a);
            }
        }

        private long answerMore(int kind, int[] a) {
            switch (kind) {
                case 14:
                    return !c(a[0]) || !in(a[1], 0, 2) ? -101 : shoot(a[0], new Place(a[1], -1), null);
                case 15:
                    return !c(a[0]) ? -101 : !cores.get(a[0]).awake ? -103 : tick(m -> m.take(a[0]));
                case 16:
                    return !c(a[0]) ? -101 : !in(a[1], 1, 60) ? -102 : rounds(a[0], a[1]);
                case 17:
                    return !in(a[0], 0, shoots.size() - 1) ? -101 : told(shoots.get(a[0]), a[1]);
                case 18:
                    return !c(a[0]) ? -101 : shoots.indexOf(underWay(a[0]));
                case 19:
                    return !c(a[0]) ? -101 : told(cores.get(a[0]), a[1]);
                case 20:
                    return !page(a[0], a[1]) ? -101 : history(new Place(a[0], a[1]), a[2]);
                case 21:
                    return seen;
                case 22:
                    return !page(a[0], a[1]) ? -101 : danger(new Place(a[0], a[1]));
                case 23:
                    return count(a[0]);
                default:
                    return digest();
            }
        }

        private long digest() {
            List<Integer> numbers = new ArrayList<>();
            for (List<Past> past : pasts) {
                So so = past.get(past.size() - 1).so;
                numbers.add(so == null ? -1 : so.told());
            }
            for (int c = 0; c < cores.size(); c++) {
                for (int what = 0; what < 7; what++) {
                    numbers.add(told(cores.get(c), what));
                }
                for (int k = 0; k < cores.get(c).notes.size(); k++) {
                    for (int what = 0; what < 6; what++) {
                        numbers.add(note(c, k, what));
                    }
                }
            }
            for (Shoot k : shoots) {
                for (int what = 0; what < 8; what++) {
                    numbers.add(told(k, what));
                }
            }
            numbers.add(time);
            long h = 67;
            for (int n : numbers) {
                h = 31 * h + n;
            }
            return h;
        }
    }
}
