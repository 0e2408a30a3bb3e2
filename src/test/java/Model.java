import java.util.ArrayList;
import java.util.List;

/** The document's words, one after the other, in lists: a second program to compare with. */
final class Model implements Face {
    private static final int NONE = -1;
    private static final int UNKNOWN = -101;
    private static final int OUTSIDE = -102;
    private static final int STATE = -103;
    private static final int FULL = -104;
    private static final int FAULT = -105;

    private static final int OLD = 5;
    private static final int HITS = 4;
    private static final int WALKS = 6;
    private static final int FAULTS = 7;
    private static final int TAKEN = 8;
    private static final int FORGOTTEN = 9;

    /** What an entry is; null for NONE. */
    private record So(int frame, boolean writable) {
    }

    /** A page, or with NONE for it a whole space. */
    private record Place(int space, int page) {
        boolean covers(Place other) {
            return space == other.space && (page == NONE || page == other.page);
        }
    }

    private record Past(So so, int since) {
    }

    private record Note(Place place, So so, int taken) {
    }

    private record Shoot(int by, Place place, int generation, int begun, List<Integer> waited, List<Integer> doneAt) {
        boolean isDone() {
            return waited.isEmpty();
        }
    }

    private static final class Core {
        private int space;
        private boolean awake = true;
        private final List<Note> notes = new ArrayList<>();
        private final List<Shoot> queue = new ArrayList<>();
        private final int[] generations = new int[3];
    }

    private List<Core> cores;
    private List<Shoot> shoots;
    private List<List<Past>> pasts;
    private int[] generations;
    private int[] counts;
    private int time;
    private int how;
    private int seen;

    Model() {
        begin(2);
    }

    private void begin(int n) {
        cores = new ArrayList<>();
        for (int i = 0; i < n; i++) {
            cores.add(new Core());
        }
        shoots = new ArrayList<>();
        pasts = new ArrayList<>();
        for (int i = 0; i < 48; i++) {
            pasts.add(new ArrayList<>(List.of(new Past(null, 0))));
        }
        generations = new int[3];
        counts = new int[10];
        time = 0;
        how = 0;
        seen = 0;
    }

    // ---- what there is

    private static boolean in(int n, int least, int most) {
        return n >= least && n <= most;
    }

    private static boolean space(int s) {
        return in(s, 0, 2);
    }

    private static boolean page(int s, int page) {
        return space(s) && in(page, 0, 15);
    }

    private static boolean frame(int frame) {
        return in(frame, 0, 255);
    }

    private boolean core(int c) {
        return in(c, 0, cores.size() - 1);
    }

    private List<Past> past(Place p) {
        return pasts.get(p.space * 16 + p.page);
    }

    private So now(Place p) {
        List<Past> past = past(p);
        return past.get(past.size() - 1).so;
    }

    private static int told(So so) {
        return so == null ? NONE : so.frame + (so.writable ? 256 : 0);
    }

    private boolean stale(Note n) {
        return !n.so.equals(now(n.place));
    }

    private boolean behind(Core core, int s) {
        return core.generations[s] < generations[s];
    }

    private boolean mayNotBegin(int c) {
        return !cores.get(c).awake || underWay(c) != NONE;
    }

    private static int forget(Core core, Place called) {
        int before = core.notes.size();
        core.notes.removeIf(n -> called.covers(n.place));
        return before - core.notes.size();
    }

    private void become(Place p, So so) {
        past(p).add(new Past(so, time));
        if (past(p).size() > 20) {
            past(p).remove(0);
        }
    }

    // ---- tables, cores

    @Override
    public int cores(int n) {
        if (!in(n, 1, 4)) {
            return OUTSIDE;
        }
        int before = cores.size();
        begin(n);
        return before;
    }

    @Override
    public int map(int s, int page, int frame, boolean writable) {
        if (!page(s, page)) {
            return UNKNOWN;
        }
        if (!frame(frame)) {
            return OUTSIDE;
        }
        if (now(new Place(s, page)) != null) {
            return STATE;
        }
        time++;
        become(new Place(s, page), new So(frame, writable));
        return 1;
    }

    @Override
    public int entry(int s, int page) {
        return page(s, page) ? told(now(new Place(s, page))) : UNKNOWN;
    }

    @Override
    public int enter(int c, int s) {
        if (!core(c) || !space(s)) {
            return UNKNOWN;
        }
        if (mayNotBegin(c) || cores.get(c).space == s) {
            return STATE;
        }
        time++;
        takeAll(c);
        cores.get(c).space = s;
        return arrive(cores.get(c));
    }

    @Override
    public int sleep(int c) {
        if (!core(c)) {
            return UNKNOWN;
        }
        if (mayNotBegin(c)) {
            return STATE;
        }
        time++;
        int taken = takeAll(c);
        cores.get(c).awake = false;
        return taken;
    }

    @Override
    public int wake(int c) {
        if (!core(c)) {
            return UNKNOWN;
        }
        if (cores.get(c).awake) {
            return STATE;
        }
        time++;
        cores.get(c).awake = true;
        return arrive(cores.get(c));
    }

    private int arrive(Core core) {
        if (!behind(core, core.space)) {
            return 0;
        }
        int forgotten = forget(core, new Place(core.space, NONE));
        core.generations[core.space] = generations[core.space];
        counts[FORGOTTEN] += forgotten;
        return forgotten;
    }

    // ---- looks

    @Override
    public int look(int c, int page, boolean toWrite) {
        if (!core(c) || !page(0, page)) {
            return UNKNOWN;
        }
        Core core = cores.get(c);
        if (!core.awake) {
            return STATE;
        }
        time++;
        Place p = new Place(core.space, page);
        for (Note n : core.notes) {
            if (n.place.equals(p) && (n.so.writable || !toWrite)) {
                how = stale(n) ? 2 : 1;
                counts[HITS]++;
                counts[OLD] += stale(n) ? 1 : 0;
                return n.so.frame;
            }
        }
        forget(core, p);
        return walk(core, p, toWrite);
    }

    private int walk(Core core, Place p, boolean toWrite) {
        So so = now(p);
        if (so == null || toWrite && !so.writable) {
            how = 4;
            counts[FAULTS]++;
            return FAULT;
        }
        how = 3;
        counts[WALKS]++;
        core.notes.add(new Note(p, so, time));
        if (core.notes.size() > 4) {
            core.notes.remove(0);
        }
        return so.frame;
    }

    @Override
    public int how() {
        return how;
    }

    @Override
    public int note(int c, int k, int what) {
        if (!core(c) || !in(k, 0, cores.get(c).notes.size() - 1)) {
            return UNKNOWN;
        }
        Note n = cores.get(c).notes.get(k);
        int[] told = {n.place.space, n.place.page, n.so.frame, n.so.writable ? 1 : 0, n.taken, stale(n) ? 1 : 0};
        return in(what, 0, 5) ? told[what] : OUTSIDE;
    }

    @Override
    public int wasSo(int c, int k) {
        if (!core(c) || !in(k, 0, cores.get(c).notes.size() - 1)) {
            return UNKNOWN;
        }
        Note n = cores.get(c).notes.get(k);
        for (int t = n.taken; t <= time; t++) {
            Past then = null;
            for (Past one : past(n.place)) {
                then = one.since <= t ? one : then;
            }
            if (then != null && n.so.equals(then.so)) {
                return 1;
            }
        }
        return 0;
    }

    // ---- shoots

    @Override
    public int unmap(int c, int s, int page) {
        return core(c) && page(s, page) ? begin(c, new Place(s, page), null) : UNKNOWN;
    }

    @Override
    public int remap(int c, int s, int page, int frame, boolean writable) {
        if (!core(c) || !page(s, page)) {
            return UNKNOWN;
        }
        return frame(frame) ? begin(c, new Place(s, page), new So(frame, writable)) : OUTSIDE;
    }

    @Override
    public int clear(int c, int s) {
        return core(c) && space(s) ? begin(c, new Place(s, NONE), null) : UNKNOWN;
    }

    private int begin(int c, Place place, So so) {
        List<Place> changed = new ArrayList<>();
        for (int page = 0; page < 16; page++) {
            Place p = new Place(place.space, page);
            if (place.covers(p) && now(p) != null) {
                changed.add(p);
            }
        }
        if (mayNotBegin(c) || changed.isEmpty()) {
            return STATE;
        }
        if (shoots.size() == 40) {
            return FULL;
        }
        time++;
        for (Place p : changed) {
            become(p, so);
        }
        return call(c, place);
    }

    private int call(int c, Place place) {
        Core core = cores.get(c);
        int s = place.space;
        forget(core, behind(core, s) ? new Place(s, NONE) : place);
        generations[s]++;
        core.generations[s] = generations[s];
        Shoot k = new Shoot(c, place, generations[s], time, new ArrayList<>(), new ArrayList<>());
        for (int other = 0; other < cores.size(); other++) {
            if (other != c && cores.get(other).awake && cores.get(other).space == s) {
                k.waited.add(other);
                cores.get(other).queue.add(k);
            }
        }
        if (k.isDone()) {
            k.doneAt.add(time);
        }
        shoots.add(k);
        return shoots.size() - 1;
    }

    @Override
    public int take(int c) {
        if (!core(c)) {
            return UNKNOWN;
        }
        if (!cores.get(c).awake) {
            return STATE;
        }
        time++;
        return takeFirst(c);
    }

    private int takeFirst(int c) {
        Core core = cores.get(c);
        if (core.queue.isEmpty()) {
            return NONE;
        }
        Shoot call = core.queue.remove(0);
        forget(core, call.place);
        int s = call.place.space;
        core.generations[s] = Math.max(core.generations[s], call.generation);
        call.waited.remove((Integer) c);
        if (call.isDone()) {
            call.doneAt.add(time);
        }
        counts[TAKEN]++;
        return shoots.indexOf(call);
    }

    private int takeAll(int c) {
        int taken = 0;
        while (takeFirst(c) != NONE) {
            taken++;
        }
        return taken;
    }

    @Override
    public int rounds(int c, int n) {
        if (!core(c)) {
            return UNKNOWN;
        }
        if (!in(n, 1, 60)) {
            return OUTSIDE;
        }
        int taken = 0;
        for (int i = 0; i < n; i++) {
            time++;
            taken += takeFirst((c + i) % cores.size()) == NONE ? 0 : 1;
        }
        return taken;
    }

    @Override
    public int shoot(int k, int what) {
        if (!in(k, 0, shoots.size() - 1)) {
            return UNKNOWN;
        }
        if (!in(what, 0, 7 + cores.size())) {
            return OUTSIDE;
        }
        Shoot one = shoots.get(k);
        if (what >= 8) {
            return one.waited.contains(what - 8) ? 1 : 0;
        }
        int doneAt = one.isDone() ? one.doneAt.get(0) : NONE;
        int[] told = {one.by, one.place.space, one.place.page, one.generation, one.begun, one.isDone() ? 1 : 0, doneAt,
            one.waited.size()};
        return told[what];
    }

    @Override
    public int underWay(int c) {
        if (!core(c)) {
            return UNKNOWN;
        }
        for (int k = 0; k < shoots.size(); k++) {
            if (shoots.get(k).by == c && !shoots.get(k).isDone()) {
                return k;
            }
        }
        return NONE;
    }

    // ---- what is told

    @Override
    public int core(int c, int what) {
        if (!core(c)) {
            return UNKNOWN;
        }
        Core core = cores.get(c);
        int[] told = {core.space, core.awake ? 1 : 0, core.notes.size(), core.queue.size(), core.generations[0],
            core.generations[1], core.generations[2]};
        return in(what, 0, 6) ? told[what] : OUTSIDE;
    }

    @Override
    public int history(int s, int page, int k) {
        if (!page(s, page)) {
            return UNKNOWN;
        }
        List<Past> past = past(new Place(s, page));
        if (!in(k, 0, past.size() - 1)) {
            return NONE;
        }
        seen = told(past.get(k).so);
        return past.get(k).since;
    }

    @Override
    public int seen() {
        return seen;
    }

    @Override
    public int danger(int s, int page) {
        if (!page(s, page)) {
            return UNKNOWN;
        }
        Place p = new Place(s, page);
        for (Core core : cores) {
            for (Note n : core.notes) {
                if (n.place.equals(p) && stale(n) && core.awake && core.space == s) {
                    return 1;
                }
            }
        }
        return 0;
    }

    @Override
    public int count(int what) {
        if (!in(what, 0, 12)) {
            return OUTSIDE;
        }
        if (what >= 10) {
            return generations[what - 10];
        }
        counts[0] = cores.size();
        counts[1] = time;
        counts[2] = shoots.size();
        counts[3] = (int) shoots.stream().filter(Shoot::isDone).count();
        return counts[what];
    }

    @Override
    public long digest() {
        List<Integer> numbers = new ArrayList<>();
        for (int i = 0; i < 48; i++) {
            numbers.add(entry(i / 16, i % 16));
        }
        for (int c = 0; c < cores.size(); c++) {
            for (int what = 0; what < 7; what++) {
                numbers.add(core(c, what));
            }
            for (int i = 0; i < 6 * cores.get(c).notes.size(); i++) {
                numbers.add(note(c, i / 6, i % 6));
            }
        }
        for (int i = 0; i < 8 * shoots.size(); i++) {
            numbers.add(shoot(i / 8, i % 8));
        }
        numbers.add(time);
        long h = 67;
        for (int n : numbers) {
            h = 31 * h + n;
        }
        return h;
    }
}
