import java.util.Arrays;

/**
 * Cores that keep what they looked up in one another's tables, and the shoots that make them forget it.
 *
 * <p>Entries are held as entry() tells them: NONE, or the frame, and 256 more if it is writable. A page of NONE
 * stands for all pages of a space, in calls to forget as in shoots.
 */
public final class ShootDown {
    public static final int NONE = -1, UNKNOWN = -101, OUTSIDE = -102, STATE = -103, FULL = -104, FAULT = -105;

    private static final int SPACES = 3;
    private static final int PAGES = 16;
    private static final int FRAMES = 256;
    private static final int MOST_HISTORY = 20;
    private static final int CORES_AT_FIRST = 2;
    private static final int MOST_CORES = 4;
    private static final int MOST_NOTES = 4;
    private static final int MOST_SHOOTS = 40;
    private static final int MOST_TURNS = 60;

    private static final int NO_LOOK_YET = 0;
    private static final int WENT_HIT = 1;
    private static final int WENT_STALE_HIT = 2;
    private static final int WENT_WALK = 3;
    private static final int WENT_FAULT = 4;

    private static final int DIGEST_SEED = 67;
    private static final int DIGEST_FACTOR = 31;
    private static final int CORE_NUMBERS = 7;
    private static final int NOTE_NUMBERS = 6;
    private static final int SHOOT_NUMBERS = 8;

    private final Tables tables = new Tables();
    private final Crew crew = new Crew();
    private final Memories memories = new Memories();
    private final Queues queues = new Queues();
    private final Shoots shoots = new Shoots();

    private int coreCount;
    private int time;
    private int lookWent;
    private int seenEntry;
    private int hits;
    private int oldHits;
    private int walks;
    private int faults;
    private int callsTaken;
    private int notesForgotten;

    public ShootDown() {
        startAgain(CORES_AT_FIRST);
    }

    // ---- tables, cores

    public int cores(int n) {
        if (n < 1 || n > MOST_CORES) {
            return OUTSIDE;
        }
        int before = coreCount;
        startAgain(n);
        return before;
    }

    public int map(int s, int page, int frame, boolean writable) {
        if (!isSpace(s) || !isPage(page)) {
            return UNKNOWN;
        }
        if (!isFrame(frame)) {
            return OUTSIDE;
        }
        if (tables.entryNow(s, page) != NONE) {
            return STATE;
        }
        time++;
        tables.change(s, page, entryOf(frame, writable), time);
        return 1;
    }

    public int entry(int s, int page) {
        if (!isSpace(s) || !isPage(page)) {
            return UNKNOWN;
        }
        return tables.entryNow(s, page);
    }

    public int enter(int c, int s) {
        if (!isCore(c) || !isSpace(s)) {
            return UNKNOWN;
        }
        if (!isFree(c) || crew.spaces[c] == s) {
            return STATE;
        }
        time++;
        takeAllCalls(c);
        crew.spaces[c] = s;
        return catchUp(c);
    }

    public int sleep(int c) {
        if (!isCore(c)) {
            return UNKNOWN;
        }
        if (!isFree(c)) {
            return STATE;
        }
        time++;
        int taken = takeAllCalls(c);
        crew.awake[c] = false;
        return taken;
    }

    public int wake(int c) {
        if (!isCore(c)) {
            return UNKNOWN;
        }
        if (crew.awake[c]) {
            return STATE;
        }
        time++;
        crew.awake[c] = true;
        return catchUp(c);
    }

    // ---- looks

    public int look(int c, int page, boolean toWrite) {
        if (!isCore(c) || !isPage(page)) {
            return UNKNOWN;
        }
        if (!crew.awake[c]) {
            return STATE;
        }
        time++;
        int s = crew.spaces[c];
        int k = memories.find(c, s, page);
        if (k == NONE) {
            return walkTable(c, s, page, toWrite);
        }
        if (toWrite && !isWritable(memories.entryNoted(c, k))) {
            memories.forget(c, s, page);
            return walkTable(c, s, page, toWrite);
        }
        return goByNote(c, k);
    }

    public int how() {
        return lookWent;
    }

    public int note(int c, int k, int what) {
        if (!isNote(c, k)) {
            return UNKNOWN;
        }
        switch (what) {
            case 0:
                return memories.spaceNoted(c, k);
            case 1:
                return memories.pageNoted(c, k);
            case 2:
                return frameOf(memories.entryNoted(c, k));
            case 3:
                return oneIf(isWritable(memories.entryNoted(c, k)));
            case 4:
                return memories.timeNoted(c, k);
            case 5:
                return oneIf(isStale(c, k));
            default:
                return OUTSIDE;
        }
    }

    public int wasSo(int c, int k) {
        if (!isNote(c, k)) {
            return UNKNOWN;
        }
        int s = memories.spaceNoted(c, k);
        int page = memories.pageNoted(c, k);
        return oneIf(tables.heldFrom(s, page, memories.entryNoted(c, k), memories.timeNoted(c, k)));
    }

    // ---- shoots

    public int unmap(int c, int s, int page) {
        if (!isCore(c) || !isSpace(s) || !isPage(page)) {
            return UNKNOWN;
        }
        return shootPage(c, s, page, NONE);
    }

    public int remap(int c, int s, int page, int frame, boolean writable) {
        if (!isCore(c) || !isSpace(s) || !isPage(page)) {
            return UNKNOWN;
        }
        if (!isFrame(frame)) {
            return OUTSIDE;
        }
        return shootPage(c, s, page, entryOf(frame, writable));
    }

    public int clear(int c, int s) {
        if (!isCore(c) || !isSpace(s)) {
            return UNKNOWN;
        }
        if (!isFree(c) || tables.isAllNone(s)) {
            return STATE;
        }
        if (shoots.isFull()) {
            return FULL;
        }
        time++;
        tables.changeAllToNone(s, time);
        return beginShoot(c, s, NONE);
    }

    public int take(int c) {
        if (!isCore(c)) {
            return UNKNOWN;
        }
        if (!crew.awake[c]) {
            return STATE;
        }
        time++;
        return takeFirstCall(c);
    }

    public int rounds(int c, int n) {
        if (!isCore(c)) {
            return UNKNOWN;
        }
        if (n < 1 || n > MOST_TURNS) {
            return OUTSIDE;
        }
        int taken = 0;
        int turnOf = c;
        for (int i = 0; i < n; i++) {
            time++;
            if (takeFirstCall(turnOf) != NONE) {
                taken++;
            }
            turnOf = turnOf + 1 < coreCount ? turnOf + 1 : 0;
        }
        return taken;
    }

    public int shoot(int k, int what) {
        if (!shoots.isBegun(k)) {
            return UNKNOWN;
        }
        switch (what) {
            case 0:
                return shoots.beganBy[k];
            case 1:
                return shoots.spaces[k];
            case 2:
                return shoots.pages[k];
            case 3:
                return shoots.generations[k];
            case 4:
                return shoots.begunAt[k];
            case 5:
                return oneIf(shoots.isDone(k));
            case 6:
                return shoots.doneAt[k];
            case 7:
                return Integer.bitCount(shoots.waitedFor[k]);
            default:
                return isCore(what - SHOOT_NUMBERS) ? oneIf(shoots.waitsFor(k, what - SHOOT_NUMBERS)) : OUTSIDE;
        }
    }

    public int underWay(int c) {
        return isCore(c) ? crew.shootsUnderWay[c] : UNKNOWN;
    }

    // ---- what is told

    public int core(int c, int what) {
        if (!isCore(c)) {
            return UNKNOWN;
        }
        switch (what) {
            case 0:
                return crew.spaces[c];
            case 1:
                return oneIf(crew.awake[c]);
            case 2:
                return memories.held[c];
            case 3:
                return queues.lengths[c];
            default:
                return isSpace(what - 4) ? crew.generation(c, what - 4) : OUTSIDE;
        }
    }

    public int history(int s, int page, int k) {
        if (!isSpace(s) || !isPage(page)) {
            return UNKNOWN;
        }
        if (!tables.isKept(s, page, k)) {
            return NONE;
        }
        seenEntry = tables.entryKept(s, page, k);
        return tables.timeKept(s, page, k);
    }

    public int seen() {
        return seenEntry;
    }

    public int danger(int s, int page) {
        if (!isSpace(s) || !isPage(page)) {
            return UNKNOWN;
        }
        for (int c = 0; c < coreCount; c++) {
            int k = memories.find(c, s, page);
            if (k != NONE && crew.isAwakeIn(c, s) && isStale(c, k)) {
                return 1;
            }
        }
        return 0;
    }

    public int count(int what) {
        switch (what) {
            case 0:
                return coreCount;
            case 1:
                return time;
            case 2:
                return shoots.begun;
            case 3:
                return shoots.howManyDone();
            case 4:
                return hits;
            case 5:
                return oldHits;
            case 6:
                return walks;
            case 7:
                return faults;
            case 8:
                return callsTaken;
            case 9:
                return notesForgotten;
            default:
                return isSpace(what - 10) ? tables.generations[what - 10] : OUTSIDE;
        }
    }

    public long digest() {
        long h = DIGEST_SEED;
        for (int s = 0; s < SPACES; s++) {
            for (int page = 0; page < PAGES; page++) {
                h = DIGEST_FACTOR * h + entry(s, page);
            }
        }
        for (int c = 0; c < coreCount; c++) {
            h = digestOfCore(h, c);
        }
        for (int k = 0; k < shoots.begun; k++) {
            for (int what = 0; what < SHOOT_NUMBERS; what++) {
                h = DIGEST_FACTOR * h + shoot(k, what);
            }
        }
        return DIGEST_FACTOR * h + time;
    }

    // ---- how it is done

    private void startAgain(int n) {
        tables.startAgain();
        crew.startAgain();
        memories.startAgain();
        queues.startAgain();
        shoots.startAgain();
        coreCount = n;
        time = 0;
        lookWent = NO_LOOK_YET;
        seenEntry = 0;
        hits = 0;
        oldHits = 0;
        walks = 0;
        faults = 0;
        callsTaken = 0;
        notesForgotten = 0;
    }

    private boolean isCore(int c) {
        return c >= 0 && c < coreCount;
    }

    /** Awake, and with no shoot of its own under way. */
    private boolean isFree(int c) {
        return crew.awake[c] && crew.shootsUnderWay[c] == NONE;
    }

    private boolean isBehind(int c, int s) {
        return crew.generation(c, s) < tables.generations[s];
    }

    private boolean isNote(int c, int k) {
        return isCore(c) && k >= 0 && k < memories.held[c];
    }

    private boolean isStale(int c, int k) {
        return memories.entryNoted(c, k) != tables.entryNow(memories.spaceNoted(c, k), memories.pageNoted(c, k));
    }

    private int goByNote(int c, int k) {
        hits++;
        lookWent = WENT_HIT;
        if (isStale(c, k)) {
            oldHits++;
            lookWent = WENT_STALE_HIT;
        }
        return frameOf(memories.entryNoted(c, k));
    }

    private int walkTable(int c, int s, int page, boolean toWrite) {
        int entry = tables.entryNow(s, page);
        if (entry == NONE || toWrite && !isWritable(entry)) {
            faults++;
            lookWent = WENT_FAULT;
            return FAULT;
        }
        walks++;
        lookWent = WENT_WALK;
        memories.keep(c, s, page, entry, time);
        return frameOf(entry);
    }

    private int shootPage(int c, int s, int page, int entry) {
        if (!isFree(c) || tables.entryNow(s, page) == NONE) {
            return STATE;
        }
        if (shoots.isFull()) {
            return FULL;
        }
        time++;
        tables.change(s, page, entry, time);
        return beginShoot(c, s, page);
    }

    private int beginShoot(int c, int s, int page) {
        // A core that is behind skips generations by beginning, so no later waking or coming would clear the rest.
        memories.forget(c, s, isBehind(c, s) ? NONE : page);
        tables.generations[s]++;
        crew.raiseGeneration(c, s, tables.generations[s]);
        int k = shoots.begin(c, s, page, tables.generations[s], time);
        for (int other = 0; other < coreCount; other++) {
            if (other != c && crew.isAwakeIn(other, s)) {
                queues.append(other, k);
                shoots.waitFor(k, other);
            }
        }
        if (shoots.isDone(k)) {
            shoots.doneAt[k] = time;
        } else {
            crew.shootsUnderWay[c] = k;
        }
        return k;
    }

    private int takeFirstCall(int c) {
        int k = queues.removeFirst(c);
        if (!shoots.isBegun(k)) {
            return NONE;
        }
        memories.forget(c, shoots.spaces[k], shoots.pages[k]);
        crew.raiseGeneration(c, shoots.spaces[k], shoots.generations[k]);
        shoots.waitNoMore(k, c);
        if (shoots.isDone(k)) {
            shoots.doneAt[k] = time;
            crew.shootsUnderWay[shoots.beganBy[k]] = NONE;
        }
        callsTaken++;
        return k;
    }

    private int takeAllCalls(int c) {
        int waiting = queues.lengths[c];
        for (int i = 0; i < waiting; i++) {
            takeFirstCall(c);
        }
        return waiting;
    }

    /** For a core that wakes or comes: how many notes it forgets. */
    private int catchUp(int c) {
        int s = crew.spaces[c];
        if (!isBehind(c, s)) {
            return 0;
        }
        int forgotten = memories.forget(c, s, NONE);
        crew.raiseGeneration(c, s, tables.generations[s]);
        notesForgotten += forgotten;
        return forgotten;
    }

    private long digestOfCore(long before, int c) {
        long h = before;
        for (int what = 0; what < CORE_NUMBERS; what++) {
            h = DIGEST_FACTOR * h + core(c, what);
        }
        for (int k = 0; k < memories.held[c]; k++) {
            for (int what = 0; what < NOTE_NUMBERS; what++) {
                h = DIGEST_FACTOR * h + note(c, k, what);
            }
        }
        return h;
    }

    private static boolean isSpace(int s) {
        return s >= 0 && s < SPACES;
    }

    private static boolean isPage(int page) {
        return page >= 0 && page < PAGES;
    }

    private static boolean isFrame(int frame) {
        return frame >= 0 && frame < FRAMES;
    }

    private static int entryOf(int frame, boolean writable) {
        return writable ? frame + FRAMES : frame;
    }

    private static int frameOf(int entry) {
        return isWritable(entry) ? entry - FRAMES : entry;
    }

    private static boolean isWritable(int entry) {
        return entry >= FRAMES;
    }

    private static int oneIf(boolean so) {
        return so ? 1 : 0;
    }

    /** The spaces: their generations, and what is kept of each page's history, the latest being the entry now. */
    private static final class Tables {
        private final int[] generations = new int[SPACES];
        private final int[] kept = new int[SPACES * PAGES];
        private final int[] entries = new int[SPACES * PAGES * MOST_HISTORY];
        private final int[] times = new int[SPACES * PAGES * MOST_HISTORY];

        private void startAgain() {
            Arrays.fill(generations, 0);
            Arrays.fill(kept, 1);
            Arrays.fill(entries, NONE);
            Arrays.fill(times, 0);
        }

        private boolean isKept(int s, int page, int k) {
            return k >= 0 && k < kept[rowOf(s, page)];
        }

        private int entryKept(int s, int page, int k) {
            return entries[rowOf(s, page) * MOST_HISTORY + k];
        }

        private int timeKept(int s, int page, int k) {
            return times[rowOf(s, page) * MOST_HISTORY + k];
        }

        private int entryNow(int s, int page) {
            return entryKept(s, page, kept[rowOf(s, page)] - 1);
        }

        private boolean isAllNone(int s) {
            for (int page = 0; page < PAGES; page++) {
                if (entryNow(s, page) != NONE) {
                    return false;
                }
            }
            return true;
        }

        private void change(int s, int page, int entry, int time) {
            int row = rowOf(s, page);
            int first = row * MOST_HISTORY;
            if (kept[row] == MOST_HISTORY) {
                System.arraycopy(entries, first + 1, entries, first, MOST_HISTORY - 1);
                System.arraycopy(times, first + 1, times, first, MOST_HISTORY - 1);
                kept[row]--;
            }
            entries[first + kept[row]] = entry;
            times[first + kept[row]] = time;
            kept[row]++;
        }

        private void changeAllToNone(int s, int time) {
            for (int page = 0; page < PAGES; page++) {
                // A page that is NONE already has been so from an earlier time on.
                if (entryNow(s, page) != NONE) {
                    change(s, page, NONE, time);
                }
            }
        }

        /** Whether the entry was this one at some time not ahead of start. */
        private boolean heldFrom(int s, int page, int entry, int start) {
            int last = kept[rowOf(s, page)] - 1;
            for (int k = 0; k <= last; k++) {
                boolean overByThen = k < last && timeKept(s, page, k + 1) <= start;
                if (!overByThen && entryKept(s, page, k) == entry) {
                    return true;
                }
            }
            return false;
        }

        private static int rowOf(int s, int page) {
            return s * PAGES + page;
        }
    }

    /** What each core is and has, but for its notes and calls. */
    private static final class Crew {
        private final int[] spaces = new int[MOST_CORES];
        private final boolean[] awake = new boolean[MOST_CORES];
        private final int[] shootsUnderWay = new int[MOST_CORES];
        private final int[] generations = new int[MOST_CORES * SPACES];

        private void startAgain() {
            Arrays.fill(spaces, 0);
            Arrays.fill(shootsUnderWay, NONE);
            Arrays.fill(generations, 0);
            // Arrays.fill is for rows of numbers alone.
            for (int c = 0; c < MOST_CORES; c++) {
                awake[c] = true;
            }
        }

        private boolean isAwakeIn(int c, int s) {
            return awake[c] && spaces[c] == s;
        }

        private int generation(int c, int s) {
            return generations[c * SPACES + s];
        }

        private void raiseGeneration(int c, int s, int generation) {
            generations[c * SPACES + s] = Math.max(generations[c * SPACES + s], generation);
        }
    }

    /** The notes of each core, the eldest first; a core has no two of the same space and page. */
    private static final class Memories {
        private final int[] held = new int[MOST_CORES];
        private final int[] spaces = new int[MOST_CORES * MOST_NOTES];
        private final int[] pages = new int[MOST_CORES * MOST_NOTES];
        private final int[] entries = new int[MOST_CORES * MOST_NOTES];
        private final int[] times = new int[MOST_CORES * MOST_NOTES];

        private void startAgain() {
            Arrays.fill(held, 0);
        }

        private int spaceNoted(int c, int k) {
            return spaces[c * MOST_NOTES + k];
        }

        private int pageNoted(int c, int k) {
            return pages[c * MOST_NOTES + k];
        }

        private int entryNoted(int c, int k) {
            return entries[c * MOST_NOTES + k];
        }

        private int timeNoted(int c, int k) {
            return times[c * MOST_NOTES + k];
        }

        private int find(int c, int s, int page) {
            for (int k = 0; k < held[c]; k++) {
                if (isOf(c, k, s, page)) {
                    return k;
                }
            }
            return NONE;
        }

        private void keep(int c, int s, int page, int entry, int time) {
            if (held[c] == MOST_NOTES) {
                forget(c, spaceNoted(c, 0), pageNoted(c, 0));
            }
            int at = c * MOST_NOTES + held[c];
            spaces[at] = s;
            pages[at] = page;
            entries[at] = entry;
            times[at] = time;
            held[c]++;
        }

        /** Forgets the note of a page, or with NONE all of the space: how many. */
        private int forget(int c, int s, int page) {
            int before = held[c];
            int staying = 0;
            for (int k = 0; k < before; k++) {
                if (!isOf(c, k, s, page)) {
                    move(c, k, staying);
                    staying++;
                }
            }
            held[c] = staying;
            return before - staying;
        }

        private boolean isOf(int c, int k, int s, int page) {
            return spaceNoted(c, k) == s && (page == NONE || pageNoted(c, k) == page);
        }

        private void move(int c, int from, int to) {
            int source = c * MOST_NOTES + from;
            int target = c * MOST_NOTES + to;
            spaces[target] = spaces[source];
            pages[target] = pages[source];
            entries[target] = entries[source];
            times[target] = times[source];
        }
    }

    /** The calls of each core, in order, as the numbers of their shoots; a shoot calls a core at most once. */
    private static final class Queues {
        private final int[] lengths = new int[MOST_CORES];
        private final int[] calls = new int[MOST_CORES * MOST_SHOOTS];

        private void startAgain() {
            Arrays.fill(lengths, 0);
        }

        private void append(int c, int k) {
            if (lengths[c] < MOST_SHOOTS) {
                calls[c * MOST_SHOOTS + lengths[c]] = k;
                lengths[c]++;
            }
        }

        private int removeFirst(int c) {
            if (lengths[c] == 0) {
                return NONE;
            }
            int first = c * MOST_SHOOTS;
            int k = calls[first];
            lengths[c]--;
            System.arraycopy(calls, first + 1, calls, first, lengths[c]);
            return k;
        }
    }

    /** The shoots begun; of the cores that a shoot waits for, each is a bit. */
    private static final class Shoots {
        private int begun;
        private final int[] beganBy = new int[MOST_SHOOTS];
        private final int[] spaces = new int[MOST_SHOOTS];
        private final int[] pages = new int[MOST_SHOOTS];
        private final int[] generations = new int[MOST_SHOOTS];
        private final int[] begunAt = new int[MOST_SHOOTS];
        private final int[] doneAt = new int[MOST_SHOOTS];
        private final int[] waitedFor = new int[MOST_SHOOTS];

        private void startAgain() {
            begun = 0;
        }

        private boolean isFull() {
            return begun >= MOST_SHOOTS;
        }

        private boolean isBegun(int k) {
            return k >= 0 && k < begun;
        }

        private boolean isDone(int k) {
            return waitedFor[k] == 0;
        }

        private boolean waitsFor(int k, int c) {
            return (waitedFor[k] & 1 << c) != 0;
        }

        private int howManyDone() {
            int done = 0;
            for (int k = 0; k < begun; k++) {
                if (isDone(k)) {
                    done++;
                }
            }
            return done;
        }

        /** The caller has seen that it is not full. */
        private int begin(int c, int s, int page, int generation, int time) {
            int k = begun;
            beganBy[k] = c;
            spaces[k] = s;
            pages[k] = page;
            generations[k] = generation;
            begunAt[k] = time;
            doneAt[k] = NONE;
            waitedFor[k] = 0;
            begun++;
            return k;
        }

        private void waitFor(int k, int c) {
            waitedFor[k] |= 1 << c;
        }

        private void waitNoMore(int k, int c) {
            waitedFor[k] &= ~(1 << c);
        }
    }
}
