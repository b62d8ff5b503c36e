import java.util.Arrays;

/**
 * Write-ahead recovery of a store of sixteen pages. The words in capitals are those of the document's
 * "Terms"; README.md says how the parts stand together.
 */
public final class AheadStore {
    public static final int NONE = -1;

    private static final int BEGINS = 1;
    private static final int WRITES = 2;
    private static final int ADDS = 3;
    private static final int COMPENSATES = 4;
    private static final int COMMITS = 5;
    private static final int ABORTS = 6;
    private static final int ENDS = 7;
    private static final int CHECK_BEGINS = 8;
    private static final int TOP_CLOSED = 9;
    private static final int CHECK_ENDS = 10;
    private static final int[] LENGTHS = {0, 6, 9, 8, 11, 6, 6, 6, 6, 8};
    private static final int SHORTEST = 6;
    private static final int CHECK_SEED = 90;

    private static final int FIRST = 8;
    private static final int FULL_ABOVE = 3500;
    // Above 3500 there come only records 4, 6, 7: at most 11 bytes for each 8 of records 2, 3, and 12 for
    // each of nine transactions, so END stays below 8600.
    private static final int ROW = 8600;

    private static final int AWAY = 0;
    private static final int RUNNING = 1;
    private static final int ROLLING = 2;
    private static final int COMMITTED = 3;

    private static final int PARTIES = 9;
    private static final int SAVES = 8;
    private static final int TOPS = 4;
    private static final int BYTES = 256;
    private static final int PAGES = 16;
    private static final int PER_PAGE = 16;
    private static final int FRAMES = 8;
    private static final int FRAMES_AT_FIRST = 4;

    private static final int LINES = 24;
    private static final int PER_LINE = 4;
    private static final int TAPE = 400;

    private static final int DO_BEGIN = 0;
    private static final int DO_WRITE = 1;
    private static final int DO_ADD = 2;
    private static final int DO_SAVE = 3;
    private static final int DO_BACK = 4;
    private static final int DO_OPEN = 5;
    private static final int DO_CLOSE = 6;
    private static final int DO_COMMIT = 7;
    private static final int DO_ABORT = 8;
    private static final int DO_ROLL = 9;
    private static final int DO_FLUSH = 10;
    private static final int DO_PAGE = 11;
    private static final int DO_CHECK = 12;
    private static final int DO_OVER = 13;
    // In the order of the numbers above; each word ends with a blank.
    private static final String WORDS =
        "begin write add save back open close commit abort roll flush page check over ";
    private static final int[] OPERANDS = {0, 2, 2, 0, 1, 0, 0, 0, 0, 1, 0, 1, 0, 0};
    private static final int[] LEAST = {0, 0, 1, 0, 0, 0, 0, 0, 0, 1, 0, 0, 0, 0};
    private static final int[] MOST = {0, 255, 255, 0, 7, 0, 0, 0, 0, 9, 0, 15, 0, 0};

    // Far above the steps of any loop whose end the log's own order brings.
    private static final int FAR = 1000000;
    private static final int MOST_TORN = 999;

    private final World now;
    private final Tape tape;
    private final Recovery recovery;
    private final Hindsight hindsight;
    private World thought;
    private World kept;

    public AheadStore() {
        now = new World();
        tape = new Tape();
        recovery = new Recovery();
        hindsight = new Hindsight();
    }

    public boolean frames(int n) {
        if (!now.up || n < 1 || n > FRAMES || now.pages.holdsAny()) {
            return false;
        }
        now.pages.frameCount = n;
        return true;
    }

    public boolean act(int t, int what) {
        switch (what) {
            case 0:
                return now.begin(t);
            case 1:
                return now.commit(t);
            case 2:
                return now.abort(t);
            case 3:
                return now.openTop(t);
            case 4:
                return now.closeTop(t);
            default:
                return false;
        }
    }

    public boolean write(int t, int a, int v) {
        return now.change(t, a, v, WRITES);
    }

    public boolean add(int t, int a, int v) {
        return now.change(t, a, v, ADDS);
    }

    public int save(int t) {
        return now.putSave(t);
    }

    public int back(int t, int s) {
        return now.goBack(t, s);
    }

    public int roll(int t, int n) {
        return n < 1 || n > 20 ? NONE : now.rollBack(t, n);
    }

    public boolean keep(int what, int v) {
        switch (what) {
            case 0:
                return now.flush(v);
            case 1:
                return now.writePage(v);
            case 2:
                return now.checkBegins();
            case 3:
                return now.checkEnds();
            case 4:
                return now.dumpPage(v);
            case 5:
                return now.losePage(v);
            case 6:
                return now.restorePage(v);
            default:
                return false;
        }
    }

    public boolean crash(int m) {
        if (!now.up || m < 0 || m > MOST_TORN) {
            return false;
        }
        now.fall(m);
        return true;
    }

    public int recover(int n) {
        if (now.up || n < NONE || n > 99) {
            return NONE;
        }
        return recovery.attempt(now, n);
    }

    public int feed(int a, int b, int c, int d, int e) {
        if (tape.size > TAPE - 20) {
            return NONE;
        }
        tape.append(a);
        tape.append(b);
        tape.append(c);
        tape.append(d);
        tape.append(e);
        return tape.size;
    }

    public boolean end(int n) {
        if (n < 0 || n > tape.size) {
            return false;
        }
        tape.size = n;
        return true;
    }

    public int plan() {
        if (!tape.readPlan()) {
            return NONE;
        }
        now.script.copyFrom(tape.draft);
        return now.script.size;
    }

    public int fault(int what) {
        if (what == 0) {
            return tape.fault;
        }
        return what == 1 ? tape.faultPlace : NONE;
    }

    public int run(int n) {
        if (!now.up || n < 1 || n > LINES) {
            return NONE;
        }
        int taken = 0;
        for (int i = 0; i < n && now.script.ran < now.script.size; i++) {
            int line = now.script.ran;
            now.script.ran++;
            if (doLine(line)) {
                taken++;
            }
        }
        return taken;
    }

    private boolean doLine(int line) {
        int t = now.script.part(line, 1);
        int x = now.script.part(line, 2);
        int y = now.script.part(line, 3);
        switch (now.script.part(line, 0)) {
            case DO_BEGIN:
                return now.begin(t);
            case DO_WRITE:
                return now.change(t, x, y, WRITES);
            case DO_ADD:
                return now.change(t, x, y, ADDS);
            case DO_SAVE:
                return now.putSave(t) != NONE;
            case DO_BACK:
                return now.goBack(t, x) != NONE;
            case DO_OPEN:
                return now.openTop(t);
            case DO_CLOSE:
                return now.closeTop(t);
            case DO_COMMIT:
                return now.commit(t);
            case DO_ABORT:
                return now.abort(t);
            case DO_ROLL:
                return now.rollBack(t, x) != NONE;
            case DO_FLUSH:
                return now.flush(0);
            case DO_PAGE:
                return now.writePage(x);
            case DO_CHECK:
                return now.checkBegins();
            case DO_OVER:
                return now.checkEnds();
            default:
                return false;
        }
    }

    public int at(int a, int what) {
        if (a < 0 || a >= BYTES) {
            return NONE;
        }
        switch (what) {
            case 0:
                return now.pages.byteNow(a);
            case 1:
                return now.pages.disk[a];
            case 2:
                return now.claims.wrote[a];
            case 3:
                return now.claims.added[a];
            default:
                return NONE;
        }
    }

    public int page(int p, int what) {
        if (p < 0 || p >= PAGES) {
            return NONE;
        }
        int f = now.pages.frameOf(p);
        switch (what) {
            case 0:
                return f < 0 ? now.pages.diskStamps[p] : now.pages.stamps[f];
            case 1:
                return now.pages.diskStamps[p];
            case 2:
                return f;
            case 3:
                return f < 0 ? 0 : now.pages.recs[f];
            case 4:
                return now.pages.isLost(p) ? 1 : 0;
            case 5:
                return now.pages.archiveStamps[p];
            default:
                return NONE;
        }
    }

    public int tx(int t, int what) {
        if (!isParty(t)) {
            return NONE;
        }
        switch (what) {
            case 0:
                return now.roster.is[t];
            case 1:
                return now.roster.last[t];
            case 2:
                return now.roster.cursor[t];
            case 3:
                return now.claims.saveCount[t];
            case 4:
                return now.claims.topCount[t];
            case 5:
                return now.claims.waits[t];
            case 6:
                return now.cost(t);
            case 7:
                return now.claims.deadlocked(t) ? 1 : 0;
            default:
                return NONE;
        }
    }

    public int log(int i) {
        return i < FIRST || i >= now.journal.endPlace ? NONE : now.journal.byteAt(i);
    }

    public int record(int s, int what) {
        Journal journal = now.journal;
        if (!journal.beginsAt(s)) {
            return NONE;
        }
        int kind = journal.byteAt(s);
        switch (what) {
            case 0:
                return kind;
            case 1:
                return journal.byteAt(s + 1);
            case 2:
                return journal.byteAt(s + 2);
            case 3:
                return journal.pairAt(s + 3);
            case 4:
                return kind == COMPENSATES || kind == TOP_CLOSED ? journal.onward(s) : NONE;
            case 5:
                return journal.touches(s) ? journal.addressAt(s) : NONE;
            case 6:
                return journal.behind(s) <= journal.flushedPlace ? 1 : 0;
            default:
                return NONE;
        }
    }

    public int would(int m, int e, int what) {
        if (m < 0 || m > MOST_TORN || e < 0 || e > 9 || what < 0 || what > 261) {
            return NONE;
        }
        if (thought == null) {
            thought = new World();
        }
        thought.copyFrom(now);
        if (thought.up) {
            thought.fall(m);
        }
        int crashesAhead = thought.crashes;
        recovery.reset();
        for (int i = 0; i < FAR && !thought.up; i++) {
            recovery.attempt(thought, e == 0 ? NONE : e);
        }
        switch (what) {
            case 256:
                return recovery.compensated;
            case 257:
                return recovery.ended;
            case 258:
                return recovery.redoneInAll;
            case 259:
                return thought.crashes - crashesAhead;
            case 260:
                return thought.journal.endPlace;
            case 261:
                return recovery.losers;
            default:
                return thought.pages.byteNow(what);
        }
    }

    public int victim() {
        int least = 0;
        int found = NONE;
        for (int t = 1; t <= PARTIES; t++) {
            if (now.claims.deadlocked(t)) {
                int cost = now.cost(t);
                if (found == NONE || cost < least) {
                    found = t;
                    least = cost;
                }
            }
        }
        return found;
    }

    public int ship(int n) {
        if (n < 1 || n > 999) {
            return NONE;
        }
        now.standby.take(now.journal, n);
        return now.standby.received;
    }

    public int stand(int a, int what) {
        if (a < 0 || a >= BYTES) {
            return NONE;
        }
        switch (what) {
            case 0:
                return now.standby.row[a];
            case 1:
                return hindsight.takenOver(now.journal, now.standby, a);
            case 2:
                return now.standby.stamps[a / PER_PAGE];
            default:
                return NONE;
        }
    }

    public int asOf(int a, int s) {
        if (a < 0 || a >= BYTES || !now.journal.beginsAt(s)) {
            return NONE;
        }
        return hindsight.byteAsOf(now.journal, a, s);
    }

    public int count(int k) {
        return k < BEGINS || k > CHECK_ENDS ? NONE : now.journal.tally(k);
    }

    public boolean image(boolean taken) {
        if (taken) {
            if (kept == null) {
                kept = new World();
            }
            kept.copyFrom(now);
            return true;
        }
        if (kept == null) {
            return false;
        }
        now.copyFrom(kept);
        return true;
    }

    public int look(int what) {
        switch (what) {
            case 0:
                return now.up ? 1 : 0;
            case 1:
                return now.journal.endPlace;
            case 2:
                return now.journal.flushedPlace;
            case 3:
                return now.master;
            case 4:
                return now.pages.frameCount;
            case 5:
                return now.pages.uncleanCount();
            case 6:
                return now.roster.allThatAre(RUNNING);
            case 7:
                return now.roster.allThatAre(ROLLING);
            case 8:
                return now.openCheck;
            case 9:
                return now.needed();
            default:
                return lookFurther(what);
        }
    }

    private int lookFurther(int what) {
        switch (what) {
            case 10:
                return now.script.size;
            case 11:
                return now.script.ran;
            case 12:
                return now.redone;
            case 13:
                return now.crashes;
            case 14:
                return now.pages.lost;
            case 15:
                return now.standby.received;
            case 16:
                return now.standby.done;
            case 17:
                return now.claims.allDeadlocked();
            case 18:
                return now.journal.tally(0);
            default:
                return NONE - 99999;
        }
    }

    private static boolean isParty(int t) {
        return t >= 1 && t <= PARTIES;
    }

    private static boolean isPage(int p) {
        return p >= 0 && p < PAGES;
    }

    /** THE LOG. Bytes behind END may be anything: nothing reads them before they are written anew. */
    private static final class Journal {
        final int[] row = new int[ROW];
        int endPlace = FIRST;
        int flushedPlace = FIRST;
        private int pen = FIRST;

        int byteAt(int i) {
            return i >= 0 && i < endPlace && i < row.length ? row[i] : 0;
        }

        int pairAt(int i) {
            return byteAt(i) * 256 + byteAt(i + 1);
        }

        int addressAt(int s) {
            return byteAt(s + 5) & 255;
        }

        /** Never less than a step on, so that a walk by it has an end. */
        int behind(int s) {
            return s + Math.max(byteAt(s + 1), SHORTEST);
        }

        boolean touches(int s) {
            int kind = byteAt(s);
            return kind == WRITES || kind == ADDS || kind == COMPENSATES;
        }

        boolean undoable(int s) {
            int kind = byteAt(s);
            return kind == WRITES || kind == ADDS;
        }

        /** Where THE CURSOR goes from the record at s (from a record 2, 3 when it has been undone). */
        int onward(int s) {
            switch (byteAt(s)) {
                case COMPENSATES:
                    return pairAt(s + 8);
                case TOP_CLOSED:
                    return pairAt(s + 5);
                default:
                    return pairAt(s + 3);
            }
        }

        /** From s on the first record 2, 3 that THE CURSOR comes to; 0 if there is none. */
        int nextUndoable(int s) {
            int cursor = s;
            for (int i = 0; i < FAR && cursor != 0 && !undoable(cursor); i++) {
                cursor = onward(cursor);
            }
            return cursor;
        }

        int undoCount(int s) {
            int found = 0;
            int cursor = s;
            for (int i = 0; i < FAR && cursor != 0; i++) {
                if (undoable(cursor)) {
                    found++;
                }
                cursor = onward(cursor);
            }
            return found;
        }

        /** What the record at s makes of the byte at its ADDRESS. */
        int done(int s, int was) {
            switch (byteAt(s)) {
                case WRITES:
                    return byteAt(s + 7);
                case ADDS:
                    return (was + byteAt(s + 6)) & 255;
                case COMPENSATES:
                    return byteAt(s + 6) == 0 ? byteAt(s + 7) : (was + byteAt(s + 7)) & 255;
                default:
                    return was;
            }
        }

        int undone(int s, int was) {
            return byteAt(s) == WRITES ? byteAt(s + 6) : (was - byteAt(s + 6)) & 255;
        }

        private int lengthDue(int s) {
            int kind = byteAt(s);
            if (kind == CHECK_ENDS) {
                int parties = byteAt(s + 5);
                return 8 + 4 * parties + 3 * byteAt(s + 6 + 4 * parties);
            }
            return kind >= 0 && kind < LENGTHS.length ? LENGTHS[kind] : 0;
        }

        boolean wholeAt(int s) {
            int length = byteAt(s + 1);
            int last = s + length - 1;
            if (s < FIRST || length < SHORTEST || length != lengthDue(s)) {
                return false;
            }
            if (last >= endPlace || last >= row.length) {
                return false;
            }
            int sum = CHECK_SEED;
            for (int i = s; i < last; i++) {
                sum += row[i];
            }
            return (sum & 255) == row[last];
        }

        boolean beginsAt(int s) {
            int place = FIRST;
            while (place < s && place < endPlace && wholeAt(place)) {
                place = behind(place);
            }
            return place == s && wholeAt(place);
        }

        /** How many records of that kind (0: of any) lie in the row. */
        int tally(int kind) {
            int found = 0;
            int place = FIRST;
            while (place < endPlace && wholeAt(place)) {
                if (kind == 0 || byteAt(place) == kind) {
                    found++;
                }
                place = behind(place);
            }
            return found;
        }

        void start(int kind, int who, int prev) {
            pen = endPlace;
            put(kind);
            put(0);
            put(who);
            put(prev >> 8);
            put(prev);
        }

        void put(int b) {
            if (pen >= 0 && pen < row.length) {
                row[pen] = b & 255;
            }
            pen++;
        }

        void putPair(int pair) {
            put(pair >> 8);
            put(pair);
        }

        /** LENGTH and CHECK can be told only now, when all the rest stands. */
        int seal() {
            int s = endPlace;
            if (s < 0 || pen >= row.length || pen < s + SHORTEST - 1) {
                return 0;
            }
            row[s + 1] = pen + 1 - s;
            int sum = CHECK_SEED;
            for (int i = s; i < pen; i++) {
                sum += row[i];
            }
            row[pen] = sum & 255;
            endPlace = pen + 1;
            return s;
        }

        void flushThrough(int s) {
            int past = s + byteAt(s + 1);
            if (past > flushedPlace) {
                flushedPlace = past;
            }
        }

        void flushAll() {
            flushedPlace = endPlace;
        }

        void endAt(int place) {
            endPlace = place;
            flushedPlace = place;
        }

        void copyFrom(Journal other) {
            endPlace = other.endPlace;
            flushedPlace = other.flushedPlace;
            System.arraycopy(other.row, 0, row, 0, Math.min(row.length, endPlace));
        }
    }

    /** THE STORE: DISK, ARCHIVE and FRAMES. */
    private static final class Pages {
        final int[] disk = new int[BYTES];
        final int[] diskStamps = new int[PAGES];
        final int[] archive = new int[BYTES];
        final int[] archiveStamps = new int[PAGES];
        int lost = 0;
        int frameCount = FRAMES_AT_FIRST;
        final int[] held = new int[FRAMES];
        final int[] copies = new int[FRAMES * PER_PAGE];
        final int[] stamps = new int[FRAMES];
        final int[] recs = new int[FRAMES];
        private final int[] uses = new int[FRAMES];
        private int clock = 0;

        Pages() {
            Arrays.fill(held, NONE);
        }

        int frameOf(int p) {
            for (int f = 0; f < frameCount && f < FRAMES; f++) {
                if (held[f] == p) {
                    return f;
                }
            }
            return NONE;
        }

        boolean holdsAny() {
            for (int f = 0; f < FRAMES; f++) {
                if (held[f] != NONE) {
                    return true;
                }
            }
            return false;
        }

        boolean isLost(int p) {
            return (lost >> p & 1) == 1;
        }

        int uncleanCount() {
            int found = 0;
            for (int f = 0; f < FRAMES; f++) {
                if (recs[f] != 0) {
                    found++;
                }
            }
            return found;
        }

        int byteNow(int a) {
            int f = frameOf(a / PER_PAGE);
            return f < 0 ? disk[a] : copies[f * PER_PAGE + a % PER_PAGE];
        }

        private int frameToTake() {
            int oldest = 0;
            for (int f = 0; f < frameCount && f < FRAMES; f++) {
                if (held[f] == NONE) {
                    return f;
                }
                if (uses[f] < uses[oldest]) {
                    oldest = f;
                }
            }
            return oldest;
        }

        int fetch(int p, Journal journal) {
            int f = frameOf(p);
            if (f < 0) {
                f = frameToTake();
                if (recs[f] != 0) {
                    writeOut(f, journal);
                }
                System.arraycopy(disk, p * PER_PAGE, copies, f * PER_PAGE, PER_PAGE);
                held[f] = p;
                stamps[f] = diskStamps[p];
            }
            clock++;
            uses[f] = clock;
            return f;
        }

        /** The log goes to DISK first: that is what keeps it ahead of the PAGES. */
        void writeOut(int f, Journal journal) {
            int p = held[f];
            if (!isPage(p)) {
                return;
            }
            journal.flushThrough(stamps[f]);
            System.arraycopy(copies, f * PER_PAGE, disk, p * PER_PAGE, PER_PAGE);
            diskStamps[p] = stamps[f];
            recs[f] = 0;
        }

        /** The record at s is done in FRAME f, which holds its PAGE. */
        void doIn(int f, int s, Journal journal) {
            int place = f * PER_PAGE + journal.addressAt(s) % PER_PAGE;
            copies[place] = journal.done(s, copies[place]);
            stamps[f] = s;
            if (recs[f] == 0) {
                recs[f] = s;
            }
        }

        void dump(int p) {
            System.arraycopy(disk, p * PER_PAGE, archive, p * PER_PAGE, PER_PAGE);
            archiveStamps[p] = diskStamps[p];
        }

        void lose(int p) {
            for (int i = 0; i < PER_PAGE; i++) {
                disk[p * PER_PAGE + i] = 0;
            }
            diskStamps[p] = 0;
            lost |= 1 << p;
        }

        void restore(int p, Journal journal) {
            journal.flushAll();
            System.arraycopy(archive, p * PER_PAGE, disk, p * PER_PAGE, PER_PAGE);
            diskStamps[p] = archiveStamps[p];
            int s = FIRST;
            while (s < journal.endPlace && journal.wholeAt(s)) {
                int a = journal.addressAt(s);
                if (journal.touches(s) && a / PER_PAGE == p && s > diskStamps[p]) {
                    disk[a] = journal.done(s, disk[a]);
                    diskStamps[p] = s;
                }
                s = journal.behind(s);
            }
            lost &= ~(1 << p);
        }

        void emptyFrames() {
            Arrays.fill(held, NONE);
            Arrays.fill(recs, 0);
        }

        void copyFrom(Pages other) {
            System.arraycopy(other.disk, 0, disk, 0, BYTES);
            System.arraycopy(other.diskStamps, 0, diskStamps, 0, PAGES);
            System.arraycopy(other.archive, 0, archive, 0, BYTES);
            System.arraycopy(other.archiveStamps, 0, archiveStamps, 0, PAGES);
            lost = other.lost;
            frameCount = other.frameCount;
            System.arraycopy(other.held, 0, held, 0, FRAMES);
            System.arraycopy(other.copies, 0, copies, 0, FRAMES * PER_PAGE);
            System.arraycopy(other.stamps, 0, stamps, 0, FRAMES);
            System.arraycopy(other.recs, 0, recs, 0, FRAMES);
            System.arraycopy(other.uses, 0, uses, 0, FRAMES);
            clock = other.clock;
        }
    }

    /** Which transactions are there, by what the log tells: all that ANALYSIS and UNDO ask of them. */
    private static final class Roster {
        final int[] is = new int[PARTIES + 1];
        final int[] last = new int[PARTIES + 1];
        final int[] cursor = new int[PARTIES + 1];

        void clear() {
            Arrays.fill(is, AWAY);
            Arrays.fill(last, 0);
            Arrays.fill(cursor, 0);
        }

        void remove(int t) {
            is[t] = AWAY;
            last[t] = 0;
            cursor[t] = 0;
        }

        int allThatAre(int state) {
            int set = 0;
            for (int t = 1; t <= PARTIES; t++) {
                if (is[t] == state) {
                    set |= 1 << t;
                }
            }
            return set;
        }

        /** ANALYSIS of the one record at s. */
        void learn(Journal journal, int s) {
            int kind = journal.byteAt(s);
            if (kind == CHECK_ENDS) {
                learnAll(journal, s);
                return;
            }
            int t = journal.byteAt(s + 2);
            if (!isParty(t)) {
                return;
            }
            if (kind == ENDS) {
                remove(t);
                return;
            }
            if (is[t] == AWAY) {
                is[t] = RUNNING;
            }
            last[t] = s;
            if (kind == COMMITS) {
                is[t] = COMMITTED;
            } else if (kind == ABORTS) {
                is[t] = ROLLING;
            }
        }

        private void learnAll(Journal journal, int s) {
            int many = journal.byteAt(s + 5);
            for (int i = 0; i < many; i++) {
                int place = s + 6 + 4 * i;
                int t = journal.byteAt(place);
                if (isParty(t) && is[t] == AWAY) {
                    is[t] = journal.byteAt(place + 1);
                    last[t] = journal.pairAt(place + 2);
                }
            }
        }

        void startUndo() {
            System.arraycopy(last, 0, cursor, 0, PARTIES + 1);
        }

        /** Of those that lost the one whose CURSOR is greatest; 0 if none is left. */
        int foremost() {
            int found = 0;
            for (int t = 1; t <= PARTIES; t++) {
                boolean lost = is[t] == RUNNING || is[t] == ROLLING;
                if (lost && (found == 0 || cursor[t] > cursor[found])) {
                    found = t;
                }
            }
            return found;
        }

        void copyFrom(Roster other) {
            System.arraycopy(other.is, 0, is, 0, PARTIES + 1);
            System.arraycopy(other.last, 0, last, 0, PARTIES + 1);
            System.arraycopy(other.cursor, 0, cursor, 0, PARTIES + 1);
        }
    }

    /** What transactions have of which the log tells nothing: SAVEPOINTS, TOPS, ADDRESSES, WAITS. */
    private static final class Claims {
        final int[] wrote = new int[BYTES];
        final int[] added = new int[BYTES];
        final int[] waits = new int[PARTIES + 1];
        final int[] saveCount = new int[PARTIES + 1];
        final int[] topCount = new int[PARTIES + 1];
        private final int[] saves = new int[(PARTIES + 1) * SAVES];
        private final int[] tops = new int[(PARTIES + 1) * TOPS];

        boolean putSave(int t, int stamp) {
            if (saveCount[t] >= SAVES) {
                return false;
            }
            saves[t * SAVES + saveCount[t]] = stamp;
            saveCount[t]++;
            return true;
        }

        int saved(int t, int s) {
            return saves[t * SAVES + s];
        }

        boolean putTop(int t, int stamp) {
            if (topCount[t] >= TOPS) {
                return false;
            }
            tops[t * TOPS + topCount[t]] = stamp;
            topCount[t]++;
            return true;
        }

        int takeTop(int t) {
            if (topCount[t] < 1) {
                return 0;
            }
            topCount[t]--;
            return tops[t * TOPS + topCount[t]];
        }

        /** TOPS were opened one behind the other, so those above a STAMP are the latest ones. */
        void cutBack(int t, int s) {
            int stamp = saved(t, s);
            saveCount[t] = s + 1;
            for (int i = 0; i < TOPS && topCount[t] > 0; i++) {
                if (tops[t * TOPS + topCount[t] - 1] <= stamp) {
                    break;
                }
                topCount[t]--;
            }
        }

        void dropMarks(int t) {
            saveCount[t] = 0;
            topCount[t] = 0;
        }

        int othersInTheWay(int t, int a, int kind) {
            int all = kind == WRITES ? wrote[a] | added[a] : wrote[a];
            return all & ~(1 << t);
        }

        void claim(int t, int a, int kind) {
            if (kind == WRITES) {
                wrote[a] |= 1 << t;
            } else {
                added[a] |= 1 << t;
            }
        }

        boolean anyIn(int p) {
            for (int a = p * PER_PAGE; a < (p + 1) * PER_PAGE; a++) {
                if ((wrote[a] | added[a]) != 0) {
                    return true;
                }
            }
            return false;
        }

        void forget(int t) {
            int others = ~(1 << t);
            dropMarks(t);
            waits[t] = 0;
            for (int u = 1; u <= PARTIES; u++) {
                waits[u] &= others;
            }
            for (int a = 0; a < BYTES; a++) {
                wrote[a] &= others;
                added[a] &= others;
            }
        }

        void clear() {
            Arrays.fill(wrote, 0);
            Arrays.fill(added, 0);
            Arrays.fill(waits, 0);
            Arrays.fill(saveCount, 0);
            Arrays.fill(topCount, 0);
        }

        boolean deadlocked(int t) {
            int reached = waits[t];
            for (int round = 0; round < PARTIES; round++) {
                for (int u = 1; u <= PARTIES; u++) {
                    if ((reached >> u & 1) == 1) {
                        reached |= waits[u];
                    }
                }
            }
            return (reached >> t & 1) == 1;
        }

        int allDeadlocked() {
            int set = 0;
            for (int t = 1; t <= PARTIES; t++) {
                if (deadlocked(t)) {
                    set |= 1 << t;
                }
            }
            return set;
        }

        void copyFrom(Claims other) {
            System.arraycopy(other.wrote, 0, wrote, 0, BYTES);
            System.arraycopy(other.added, 0, added, 0, BYTES);
            System.arraycopy(other.waits, 0, waits, 0, PARTIES + 1);
            System.arraycopy(other.saveCount, 0, saveCount, 0, PARTIES + 1);
            System.arraycopy(other.topCount, 0, topCount, 0, PARTIES + 1);
            System.arraycopy(other.saves, 0, saves, 0, (PARTIES + 1) * SAVES);
            System.arraycopy(other.tops, 0, tops, 0, (PARTIES + 1) * TOPS);
        }
    }

    private static final class Standby {
        final int[] row = new int[BYTES];
        final int[] stamps = new int[PAGES];
        int received = FIRST;
        int done = FIRST;

        void take(Journal journal, int n) {
            received = Math.min(received + n, journal.flushedPlace);
            while (done < received && journal.wholeAt(done) && journal.behind(done) <= received) {
                if (journal.touches(done)) {
                    int a = journal.addressAt(done);
                    row[a] = journal.done(done, row[a]);
                    stamps[a / PER_PAGE] = done;
                }
                done = journal.behind(done);
            }
        }

        void copyFrom(Standby other) {
            System.arraycopy(other.row, 0, row, 0, BYTES);
            System.arraycopy(other.stamps, 0, stamps, 0, PAGES);
            received = other.received;
            done = other.done;
        }
    }

    /** A plan's lines, each with its word, its transaction and up to two numbers more. */
    private static final class Script {
        private final int[] parts = new int[LINES * PER_LINE];
        int size = 0;
        int ran = 0;

        int part(int line, int which) {
            int place = line * PER_LINE + which;
            return line >= 0 && line < LINES && which >= 0 && which < PER_LINE ? parts[place] : NONE;
        }

        void append(int word, int t, int x, int y) {
            if (size < 0 || size >= LINES) {
                return;
            }
            int place = size * PER_LINE;
            parts[place] = word;
            parts[place + 1] = t;
            parts[place + 2] = x;
            parts[place + 3] = y;
            size++;
        }

        void clear() {
            size = 0;
            ran = 0;
        }

        void copyFrom(Script other) {
            System.arraycopy(other.parts, 0, parts, 0, LINES * PER_LINE);
            size = other.size;
            ran = other.ran;
        }
    }

    /** All that THE IMAGE has, and that is copied to be changed in thought. */
    private static final class World {
        final Journal journal = new Journal();
        final Pages pages = new Pages();
        final Roster roster = new Roster();
        final Claims claims = new Claims();
        final Standby standby = new Standby();
        final Script script = new Script();
        boolean up = true;
        int master = 0;
        int openCheck = 0;
        int redone = 0;
        int crashes = 0;

        private boolean isFull() {
            return journal.endPlace > FULL_ABOVE;
        }

        private boolean isRunning(int t) {
            return isParty(t) && roster.is[t] == RUNNING;
        }

        private int finish(int t) {
            int s = journal.seal();
            roster.last[t] = s;
            return s;
        }

        /** A record of t that has nothing of its own. */
        int note(int t, int kind) {
            journal.start(kind, t, roster.last[t]);
            return finish(t);
        }

        void endOf(int t) {
            note(t, ENDS);
            roster.remove(t);
            claims.forget(t);
        }

        boolean begin(int t) {
            if (!up || !isParty(t) || roster.is[t] != AWAY || isFull()) {
                return false;
            }
            note(t, BEGINS);
            roster.is[t] = RUNNING;
            return true;
        }

        boolean commit(int t) {
            if (!isRunning(t) || claims.topCount[t] > 0 || isFull()) {
                return false;
            }
            journal.flushThrough(note(t, COMMITS));
            endOf(t);
            return true;
        }

        boolean abort(int t) {
            if (!isRunning(t)) {
                return false;
            }
            roster.cursor[t] = note(t, ABORTS);
            roster.is[t] = ROLLING;
            claims.dropMarks(t);
            claims.waits[t] = 0;
            return true;
        }

        boolean openTop(int t) {
            return isRunning(t) && claims.putTop(t, roster.last[t]);
        }

        boolean closeTop(int t) {
            if (!isRunning(t) || claims.topCount[t] < 1 || isFull()) {
                return false;
            }
            journal.start(TOP_CLOSED, t, roster.last[t]);
            journal.putPair(claims.takeTop(t));
            finish(t);
            return true;
        }

        /** WRITE and ADD: kind is that of their record. */
        boolean change(int t, int a, int v, int kind) {
            int least = kind == ADDS ? 1 : 0;
            if (!isRunning(t) || a < 0 || a >= BYTES || v < least || v > 255) {
                return false;
            }
            if (isFull() || pages.isLost(a / PER_PAGE)) {
                return false;
            }
            int others = claims.othersInTheWay(t, a, kind);
            if (others != 0) {
                claims.waits[t] = others;
                return false;
            }
            int f = pages.fetch(a / PER_PAGE, journal);
            journal.start(kind, t, roster.last[t]);
            journal.put(a);
            if (kind == WRITES) {
                journal.put(pages.byteNow(a));
            }
            journal.put(v);
            pages.doIn(f, finish(t), journal);
            claims.claim(t, a, kind);
            claims.waits[t] = 0;
            return true;
        }

        int putSave(int t) {
            return isRunning(t) && claims.putSave(t, roster.last[t]) ? claims.saveCount[t] - 1 : NONE;
        }

        int goBack(int t, int s) {
            if (!isRunning(t) || s < 0 || s >= claims.saveCount[t]) {
                return NONE;
            }
            int stamp = claims.saved(t, s);
            int undone = 0;
            int cursor = roster.last[t];
            for (int i = 0; i < FAR && cursor > stamp; i++) {
                if (journal.undoable(cursor)) {
                    compensate(t, cursor);
                    undone++;
                }
                cursor = journal.onward(cursor);
            }
            claims.cutBack(t, s);
            claims.waits[t] = 0;
            return undone;
        }

        /** The record 2, 3 at s is undone by t. */
        void compensate(int t, int s) {
            int a = journal.addressAt(s);
            boolean wrote = journal.byteAt(s) == WRITES;
            int f = pages.fetch(a / PER_PAGE, journal);
            journal.start(COMPENSATES, t, roster.last[t]);
            journal.put(a);
            journal.put(wrote ? 0 : 1);
            journal.put(wrote ? journal.byteAt(s + 6) : 256 - journal.byteAt(s + 6));
            journal.putPair(journal.pairAt(s + 3));
            pages.doIn(f, finish(t), journal);
        }

        int rollBack(int t, int n) {
            if (!isParty(t) || roster.is[t] != ROLLING) {
                return NONE;
            }
            int written = 0;
            for (int i = 0; i < n && roster.is[t] == ROLLING; i++) {
                int cursor = journal.nextUndoable(roster.cursor[t]);
                if (cursor == 0) {
                    endOf(t);
                } else {
                    compensate(t, cursor);
                    roster.cursor[t] = journal.onward(cursor);
                }
                written++;
            }
            return written;
        }

        int cost(int t) {
            switch (roster.is[t]) {
                case RUNNING:
                    return journal.undoCount(roster.last[t]);
                case ROLLING:
                    return journal.undoCount(roster.cursor[t]);
                default:
                    return 0;
            }
        }

        boolean flush(int s) {
            if (!up || s != 0 && !journal.beginsAt(s)) {
                return false;
            }
            if (s == 0) {
                journal.flushAll();
            } else {
                journal.flushThrough(s);
            }
            return true;
        }

        boolean writePage(int p) {
            int f = up && isPage(p) ? pages.frameOf(p) : NONE;
            if (f < 0 || pages.recs[f] == 0) {
                return false;
            }
            pages.writeOut(f, journal);
            return true;
        }

        boolean checkBegins() {
            if (!up || openCheck != 0 || isFull()) {
                return false;
            }
            journal.start(CHECK_BEGINS, 0, 0);
            openCheck = journal.seal();
            return true;
        }

        boolean checkEnds() {
            if (!up || openCheck == 0 || isFull()) {
                return false;
            }
            journal.start(CHECK_ENDS, 0, 0);
            int there = roster.allThatAre(RUNNING) | roster.allThatAre(ROLLING);
            journal.put(Integer.bitCount(there));
            for (int t = 1; t <= PARTIES; t++) {
                if (roster.is[t] != AWAY) {
                    journal.put(t);
                    journal.put(roster.is[t]);
                    journal.putPair(roster.last[t]);
                }
            }
            journal.put(pages.uncleanCount());
            for (int p = 0; p < PAGES; p++) {
                int f = pages.frameOf(p);
                if (f >= 0 && pages.recs[f] != 0) {
                    journal.put(p);
                    journal.putPair(pages.recs[f]);
                }
            }
            journal.flushThrough(journal.seal());
            master = openCheck;
            openCheck = 0;
            return true;
        }

        boolean dumpPage(int p) {
            if (!up || !isPage(p) || pages.isLost(p)) {
                return false;
            }
            pages.dump(p);
            return true;
        }

        boolean losePage(int p) {
            if (!up || !isPage(p) || pages.isLost(p) || pages.frameOf(p) >= 0 || claims.anyIn(p)) {
                return false;
            }
            pages.lose(p);
            return true;
        }

        boolean restorePage(int p) {
            if (!up || !isPage(p) || !pages.isLost(p)) {
                return false;
            }
            pages.restore(p, journal);
            return true;
        }

        /** CRASH. */
        void fall(int m) {
            journal.endAt(Math.min(journal.endPlace, journal.flushedPlace + m));
            pages.emptyFrames();
            roster.clear();
            claims.clear();
            openCheck = 0;
            up = false;
            crashes++;
        }

        int firstFrom() {
            return master == 0 ? FIRST : master;
        }

        int needed() {
            if (!up) {
                return FIRST;
            }
            int least = firstFrom();
            for (int f = 0; f < FRAMES; f++) {
                if (pages.recs[f] != 0) {
                    least = Math.min(least, pages.recs[f]);
                }
            }
            for (int t = 1; t <= PARTIES; t++) {
                if (roster.is[t] != AWAY) {
                    least = Math.min(least, firstOf(t));
                }
            }
            return least;
        }

        private int firstOf(int t) {
            int s = roster.last[t];
            for (int i = 0; i < FAR && journal.pairAt(s + 3) != 0; i++) {
                s = journal.pairAt(s + 3);
            }
            return s;
        }

        void copyFrom(World other) {
            journal.copyFrom(other.journal);
            pages.copyFrom(other.pages);
            roster.copyFrom(other.roster);
            claims.copyFrom(other.claims);
            standby.copyFrom(other.standby);
            script.copyFrom(other.script);
            up = other.up;
            master = other.master;
            openCheck = other.openCheck;
            redone = other.redone;
            crashes = other.crashes;
        }
    }

    /** RECOVER, and what all attempts since reset() have come to. */
    private static final class Recovery {
        private final int[] unclean = new int[PAGES];
        private int written = 0;
        private boolean analysed = false;
        int losers = 0;
        int compensated = 0;
        int ended = 0;
        int redoneInAll = 0;

        void reset() {
            analysed = false;
            compensated = 0;
            ended = 0;
            redoneInAll = 0;
        }

        /** With at most n records (NONE: without end): how many it wrote. */
        int attempt(World world, int n) {
            written = 0;
            world.redone = 0;
            for (int p = 0; p < PAGES; p++) {
                if (world.pages.isLost(p)) {
                    world.pages.restore(p, world.journal);
                }
            }
            analyse(world);
            redo(world);
            redoneInAll += world.redone;
            if (undo(world, n)) {
                world.up = true;
            } else {
                world.fall(0);
            }
            return written;
        }

        private void analyse(World world) {
            Journal journal = world.journal;
            Arrays.fill(unclean, 0);
            int s = world.firstFrom();
            while (s < journal.endPlace && journal.wholeAt(s)) {
                world.roster.learn(journal, s);
                if (journal.touches(s)) {
                    markUnclean(journal.addressAt(s) / PER_PAGE, s);
                } else if (journal.byteAt(s) == CHECK_ENDS) {
                    markTold(journal, s + 6 + 4 * journal.byteAt(s + 5));
                }
                s = journal.behind(s);
            }
            journal.endAt(s);
            world.standby.received = Math.min(world.standby.received, s);
            world.roster.startUndo();
            if (!analysed) {
                losers = world.roster.allThatAre(RUNNING) | world.roster.allThatAre(ROLLING);
                analysed = true;
            }
        }

        private void markUnclean(int p, int rec) {
            if (isPage(p) && (unclean[p] == 0 || rec < unclean[p])) {
                unclean[p] = rec;
            }
        }

        private void markTold(Journal journal, int place) {
            int many = journal.byteAt(place);
            for (int i = 0; i < many; i++) {
                markUnclean(journal.byteAt(place + 1 + 3 * i), journal.pairAt(place + 2 + 3 * i));
            }
        }

        private void redo(World world) {
            Journal journal = world.journal;
            int least = journal.endPlace;
            for (int p = 0; p < PAGES; p++) {
                if (unclean[p] != 0) {
                    least = Math.min(least, unclean[p]);
                }
            }
            for (int s = least; s < journal.endPlace; s = journal.behind(s)) {
                int p = journal.addressAt(s) / PER_PAGE;
                if (journal.touches(s) && unclean[p] != 0 && s >= unclean[p]) {
                    int f = world.pages.fetch(p, journal);
                    if (world.pages.stamps[f] < s) {
                        world.pages.doIn(f, s, journal);
                        world.redone++;
                    }
                }
            }
        }

        /** Whether it came through; if not, one more record than n was to be written. */
        private boolean undo(World world, int n) {
            Roster roster = world.roster;
            for (int t = 1; t <= PARTIES; t++) {
                if (roster.is[t] == COMMITTED) {
                    if (written == n) {
                        return false;
                    }
                    endOne(world, t);
                }
            }
            for (int i = 0; i < FAR; i++) {
                int t = roster.foremost();
                if (t == 0) {
                    return true;
                }
                int cursor = roster.cursor[t];
                boolean writes = cursor == 0 || world.journal.undoable(cursor);
                if (writes && written == n) {
                    return false;
                }
                if (cursor == 0) {
                    endOne(world, t);
                    continue;
                }
                if (writes) {
                    world.compensate(t, cursor);
                    world.journal.flushAll();
                    written++;
                    compensated++;
                }
                roster.cursor[t] = world.journal.onward(cursor);
            }
            return true;
        }

        private void endOne(World world, int t) {
            world.endOf(t);
            world.journal.flushAll();
            written++;
            ended++;
        }
    }

    /** One byte as it would be, if all that lost up to some record were rolled back without records. */
    private static final class Hindsight {
        private final Roster roster = new Roster();

        int takenOver(Journal journal, Standby standby, int a) {
            roster.clear();
            for (int s = FIRST; s < standby.done; s = journal.behind(s)) {
                roster.learn(journal, s);
            }
            return rolledBack(journal, a, standby.row[a]);
        }

        int byteAsOf(Journal journal, int a, int last) {
            roster.clear();
            int is = 0;
            for (int s = FIRST; s <= last; s = journal.behind(s)) {
                roster.learn(journal, s);
                if (journal.touches(s) && journal.addressAt(s) == a) {
                    is = journal.done(s, is);
                }
            }
            return rolledBack(journal, a, is);
        }

        private int rolledBack(Journal journal, int a, int from) {
            int is = from;
            roster.startUndo();
            for (int i = 0; i < FAR; i++) {
                int t = roster.foremost();
                if (t == 0) {
                    break;
                }
                int cursor = roster.cursor[t];
                if (cursor == 0) {
                    roster.remove(t);
                    continue;
                }
                if (journal.undoable(cursor) && journal.addressAt(cursor) == a) {
                    is = journal.undone(cursor, is);
                }
                roster.cursor[t] = journal.onward(cursor);
            }
            return is;
        }
    }

    /** The TAPE, and how it is read as a plan. */
    private static final class Tape {
        private static final int AT_END = 0;
        private static final int WORD = 1;
        private static final int NUMBER = 2;
        private static final int STOP = 3;
        private static final int NO_TOKEN = 4;

        private final int[] bytes = new int[TAPE];
        int size = 0;
        int fault = 0;
        int faultPlace = NONE;
        final Script draft = new Script();
        private int place = 0;
        private int token = AT_END;
        private int tokenPlace = 0;
        private int value = 0;

        void append(int four) {
            for (int shift = 24; shift >= 0; shift -= 8) {
                if (size >= 0 && size < TAPE) {
                    bytes[size] = four >> shift & 255;
                    size++;
                }
            }
        }

        /** Whether it was without a FAULT: draft has the plan then. */
        boolean readPlan() {
            fault = 0;
            faultPlace = NONE;
            place = 0;
            draft.clear();
            nextToken();
            boolean right = true;
            for (int i = 0; i <= LINES && right && token != AT_END; i++) {
                right = readLine();
            }
            size = 0;
            return right;
        }

        private boolean wrong(int what) {
            fault = what;
            faultPlace = tokenPlace;
            return false;
        }

        private boolean readLine() {
            int t = 0;
            if (token == NUMBER) {
                if (!numberWithin(1, PARTIES)) {
                    return false;
                }
                t = value;
            } else if (token != WORD || value < DO_FLUSH) {
                return wrong(1);
            }
            if (draft.size >= LINES) {
                return wrong(3);
            }
            if (t != 0) {
                nextToken();
                if (token != WORD || value >= DO_FLUSH) {
                    return wrong(1);
                }
            }
            return readRest(t, value);
        }

        private boolean readRest(int t, int word) {
            if (word < 0 || word >= OPERANDS.length) {
                return wrong(1);
            }
            int x = 0;
            int y = 0;
            nextToken();
            if (OPERANDS[word] == 2) {
                if (!numberWithin(0, 255)) {
                    return false;
                }
                x = value;
                nextToken();
            }
            if (OPERANDS[word] >= 1) {
                if (!numberWithin(LEAST[word], MOST[word])) {
                    return false;
                }
                y = value;
                nextToken();
            }
            if (token != STOP) {
                return wrong(1);
            }
            nextToken();
            draft.append(word, t, OPERANDS[word] == 2 ? x : y, y);
            return true;
        }

        private boolean numberWithin(int least, int most) {
            if (token != NUMBER) {
                return wrong(1);
            }
            return value >= least && value <= most || wrong(2);
        }

        private int byteHere() {
            return place >= 0 && place < size && place < TAPE ? bytes[place] : NONE;
        }

        private void nextToken() {
            while (place < size && (byteHere() == ' ' || byteHere() == 10)) {
                place++;
            }
            tokenPlace = place;
            int first = byteHere();
            if (first == NONE) {
                token = AT_END;
            } else if (isLetter(first)) {
                takeWord();
            } else if (isDigit(first)) {
                takeNumber();
            } else {
                token = first == ';' ? STOP : NO_TOKEN;
                place++;
            }
        }

        private void takeWord() {
            while (place < size && isLetter(byteHere())) {
                place++;
            }
            value = wordNumber();
            token = value == NONE ? NO_TOKEN : WORD;
        }

        /** Which of WORDS stands between tokenPlace and place. */
        private int wordNumber() {
            int number = 0;
            int i = tokenPlace;
            boolean alike = true;
            for (int k = 0; k < WORDS.length(); k++) {
                char sign = WORDS.charAt(k);
                if (sign != ' ') {
                    alike = alike && i >= 0 && i < place && i < TAPE && bytes[i] == sign;
                    i++;
                } else if (alike && i == place) {
                    return number;
                } else {
                    number++;
                    i = tokenPlace;
                    alike = true;
                }
            }
            return NONE;
        }

        private void takeNumber() {
            value = 0;
            while (place < size && isDigit(byteHere())) {
                // A fifth digit makes it no NUMBER, so what value is then is never asked.
                value = value * 10 + byteHere() - '0';
                place++;
            }
            token = place - tokenPlace > 4 ? NO_TOKEN : NUMBER;
        }

        private static boolean isLetter(int b) {
            return b >= 'a' && b <= 'z' || b >= 'A' && b <= 'Z';
        }

        private static boolean isDigit(int b) {
            return b >= '0' && b <= '9';
        }
    }
}
