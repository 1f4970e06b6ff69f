/**
 * A kernel's desk of open things: processes have descriptors of pipes, files and a console.
 *
 * All rows are made once, with the desk, and are used again: no call makes an object that stays.
 */
public final class DescriptorDesk {
    private static final int PROCESSES = 8;
    private static final int DESCRIPTORS = 8;
    private static final int OPENINGS = 20;
    private static final int PIPES = 6;
    private static final int FILES = 6;
    private static final int NAMES = 9;

    private static final int PIPE_BYTES = 32;
    private static final int FILE_BYTES = 64;
    private static final int TYPED_BYTES = 40;
    private static final int SHOWN_BYTES = 60;
    private static final int BYTES_A_CALL = 8;
    private static final int END_BYTE = 4;

    private static final int DONE = 0;
    private static final int BAD = -1;
    private static final int MISSING = -2;
    private static final int THERE = -3;
    private static final int FULL = -4;
    private static final int BROKEN = -5;
    private static final int WAIT = -6;
    private static final int ROOM = -7;

    private static final int READS = 1;
    private static final int WRITES = 2;
    private static final int APPENDS = 4;
    private static final int ALL_RIGHTS = READS | WRITES | APPENDS;
    private static final int MAKES = 8;
    private static final int MUST_BE_MISSING = 16;
    private static final int EMPTIES = 32;
    private static final int ALL_HOW = 63;

    private static final int ABSENT = 0;
    private static final int READY = 1;
    private static final int WAITS_TO_READ = 2;
    private static final int WAITS_TO_WRITE = 3;

    private static final int NO_NAME = 0;
    private static final int NONE = -1;

    private final Proc[] procs = new Proc[PROCESSES];
    private final Opening[] openings = new Opening[OPENINGS];
    private final Pipe[] pipes = new Pipe[PIPES];
    private final StoredFile[] files = new StoredFile[FILES];
    private final ByteRow typedBytes = new ByteRow();
    private final ByteRow shownBytes = new ByteRow();
    private int shownInAll = 0;

    /** Bytes that go out as they came in; whoever adds keeps to a limit of at most 64. */
    private static final class ByteRow {
        // 64 places serve every limit (32, 40, 60), and the mask keeps each index inside the array.
        private static final int PLACES = 64;
        private static final int MASK = PLACES - 1;

        private final int[] places = new int[PLACES];
        private int first = 0;
        private int size = 0;

        int byteAt(int k) {
            return places[(first + k) & MASK];
        }

        void addLast(int b) {
            places[(first + size) & MASK] = b;
            size++;
        }

        int takeFirst() {
            int b = places[first & MASK];
            first = (first + 1) & MASK;
            size--;
            return b;
        }

        void empty() {
            first = 0;
            size = 0;
        }
    }

    /** A pipe is there as long as an opening reads or writes it. */
    private static final class Pipe {
        private final ByteRow bytes = new ByteRow();
        private int readers = 0;
        private int writers = 0;

        boolean isThere() {
            return readers + writers > 0;
        }

        void addEnd(int right) {
            if (right == READS) {
                readers++;
            } else {
                writers++;
            }
        }

        void dropEnd(int right) {
            if (right == READS) {
                readers--;
            } else {
                writers--;
            }
            if (!isThere()) {
                bytes.empty();
            }
        }
    }

    /** A file is there as long as it has a name or an opening. */
    private static final class StoredFile {
        private final int[] bytes = new int[FILE_BYTES];
        private int length = 0;
        private int name = NO_NAME;
        private int users = 0;

        boolean isThere() {
            return name != NO_NAME || users > 0;
        }

        int byteAt(int k) {
            return k >= 0 && k < FILE_BYTES ? bytes[k] : 0;
        }

        void put(int k, int b) {
            if (k < 0 || k >= FILE_BYTES) {
                return;
            }
            // What an emptied or a former file left behind the end must read as 0.
            for (int gap = length; gap < k; gap++) {
                bytes[gap] = 0;
            }
            bytes[k] = b;
            length = Math.max(length, k + 1);
        }
    }

    /** An end of a pipe, if it has a pipe; an open file, if it has a file; else the console. */
    private static final class Opening {
        private Pipe pipe = null;
        private StoredFile file = null;
        private int position = 0;
        private int rights = 0;
        private int holders = 0;

        void begin(Pipe ofPipe, StoredFile ofFile, int allowed) {
            pipe = ofPipe;
            file = ofFile;
            position = 0;
            rights = allowed;
            if (ofPipe != null) {
                ofPipe.addEnd(allowed);
            }
            if (ofFile != null) {
                ofFile.users++;
            }
        }

        boolean has(int right) {
            return (rights & right) != 0;
        }

        boolean isEnd(Pipe of, int right) {
            return pipe == of && rights == right;
        }

        void drop() {
            holders--;
            if (holders > 0) {
                return;
            }
            if (pipe != null) {
                pipe.dropEnd(rights);
            }
            if (file != null) {
                file.users--;
            }
        }
    }

    /** A process: its descriptors, for what it waits, and what its latest read gave. */
    private static final class Proc {
        private final Opening[] descriptors = new Opening[DESCRIPTORS];
        private int condition = ABSENT;
        private int waitsThrough = NONE;
        private int wants = 0;
        private long latest = 0;

        void begin() {
            beReady();
            latest = 0;
        }

        void beReady() {
            condition = READY;
            waitsThrough = NONE;
            wants = 0;
        }

        void beWaiting(int toDo, int d, int n) {
            condition = toDo;
            waitsThrough = d;
            wants = n;
        }

        void beAbsent() {
            for (int d = 0; d < DESCRIPTORS; d++) {
                release(d);
            }
            condition = ABSENT;
        }

        boolean isWaiting() {
            return condition == WAITS_TO_READ || condition == WAITS_TO_WRITE;
        }

        Opening openingAt(int d) {
            return d >= 0 && d < DESCRIPTORS ? descriptors[d] : null;
        }

        int freeFrom(int least) {
            for (int d = Math.max(0, least); d < DESCRIPTORS; d++) {
                if (descriptors[d] == null) {
                    return d;
                }
            }
            return NONE;
        }

        void hold(int d, Opening opening) {
            if (d < 0 || d >= DESCRIPTORS) {
                return;
            }
            // The new one is held before the old one goes: they may be the same.
            opening.holders++;
            release(d);
            descriptors[d] = opening;
        }

        void release(int d) {
            Opening old = openingAt(d);
            if (old != null) {
                old.drop();
                descriptors[d] = null;
            }
        }

        boolean holdsEnd(Pipe of, int right) {
            for (Opening opening : descriptors) {
                if (opening != null && opening.isEnd(of, right)) {
                    return true;
                }
            }
            return false;
        }

        void getByte(int b) {
            latest = latest << 8 | b;
        }
    }

    public DescriptorDesk() {
        for (int i = 0; i < PROCESSES; i++) {
            procs[i] = new Proc();
        }
        for (int i = 0; i < OPENINGS; i++) {
            openings[i] = new Opening();
        }
        for (int i = 0; i < PIPES; i++) {
            pipes[i] = new Pipe();
        }
        for (int i = 0; i < FILES; i++) {
            files[i] = new StoredFile();
        }
    }

    public int spawn() {
        int child = leastAbsent();
        Opening console = freeOpening(null);
        if (child < 0 || console == null) {
            return FULL;
        }
        Proc proc = procs[child];
        proc.begin();
        console.begin(null, null, READS | WRITES);
        proc.hold(0, console);
        proc.hold(1, console);
        return child;
    }

    public int fork(int p) throws IllegalStateException {
        Proc parent = readyProc(p);
        int child = leastAbsent();
        if (child < 0) {
            return FULL;
        }
        Proc proc = procs[child];
        proc.begin();
        for (int d = 0; d < DESCRIPTORS; d++) {
            Opening opening = parent.openingAt(d);
            if (opening != null) {
                proc.hold(d, opening);
            }
        }
        return child;
    }

    public int exit(int p) throws IllegalStateException {
        Proc proc = procThere(p);
        if (proc == null) {
            throw new IllegalStateException("no such process");
        }
        proc.beAbsent();
        return wakeAll();
    }

    public int open(int p, int name, int how) throws IllegalStateException, IllegalArgumentException {
        Proc proc = readyProc(p);
        checkName(name);
        checkHow(how);
        StoredFile file = fileNamed(name);
        if (file == null && (how & MAKES) == 0) {
            return MISSING;
        }
        if (file != null && (how & MUST_BE_MISSING) != 0) {
            return THERE;
        }
        StoredFile opened = file != null ? file : freeFile();
        int d = proc.freeFrom(0);
        Opening opening = freeOpening(null);
        if (opened == null || d < 0 || opening == null) {
            return FULL;
        }
        opened.name = name;
        // A new file's row may still have the length of the one that was there before it.
        if (file == null || (how & EMPTIES) != 0) {
            opened.length = 0;
        }
        opening.begin(null, opened, how & ALL_RIGHTS);
        proc.hold(d, opening);
        return d;
    }

    public int pipe(int p) throws IllegalStateException {
        Proc proc = readyProc(p);
        int reads = proc.freeFrom(0);
        int writes = proc.freeFrom(reads + 1);
        Opening reading = freeOpening(null);
        Opening writing = freeOpening(reading);
        Pipe made = freePipe();
        if (reads < 0 || writes < 0 || reading == null || writing == null || made == null) {
            return FULL;
        }
        reading.begin(made, null, READS);
        writing.begin(made, null, WRITES);
        proc.hold(reads, reading);
        proc.hold(writes, writing);
        return reads + DESCRIPTORS * writes;
    }

    public int read(int p, int d, int n) throws IllegalStateException, IllegalArgumentException {
        Proc proc = readyProc(p);
        checkAmount(n);
        Opening opening = proc.openingAt(d);
        if (opening == null) {
            return BAD;
        }
        int hindrance = hindranceToRead(opening, n);
        if (hindrance == WAIT) {
            proc.beWaiting(WAITS_TO_READ, d, n);
        }
        if (hindrance != DONE) {
            return hindrance;
        }
        proc.latest = 0;
        int got = take(proc, opening, n);
        wakeAll();
        return got;
    }

    public long given(int p) {
        Proc proc = procThere(p);
        return proc == null ? 0 : proc.latest;
    }

    public int write(int p, int d, long bytes, int n) throws IllegalStateException, IllegalArgumentException {
        Proc proc = readyProc(p);
        checkAmount(n);
        Opening opening = proc.openingAt(d);
        if (opening == null) {
            return BAD;
        }
        int hindrance = hindranceToWrite(opening, n);
        if (hindrance == WAIT) {
            proc.beWaiting(WAITS_TO_WRITE, d, n);
        }
        if (hindrance != DONE) {
            return hindrance;
        }
        put(opening, bytes, n);
        wakeAll();
        return n;
    }

    public int close(int p, int d) throws IllegalStateException {
        Proc proc = readyProc(p);
        if (proc.openingAt(d) == null) {
            return BAD;
        }
        proc.release(d);
        wakeAll();
        return DONE;
    }

    public int dup(int p, int d, int to) throws IllegalStateException, IllegalArgumentException {
        Proc proc = readyProc(p);
        if (to < NONE || to >= DESCRIPTORS) {
            throw new IllegalArgumentException("no such descriptor to copy to");
        }
        Opening opening = proc.openingAt(d);
        if (opening == null) {
            return BAD;
        }
        int target = to == NONE ? proc.freeFrom(0) : to;
        if (target < 0) {
            return FULL;
        }
        proc.hold(target, opening);
        wakeAll();
        return target;
    }

    public int seek(int p, int d, int v, int from) throws IllegalStateException, IllegalArgumentException {
        Proc proc = readyProc(p);
        if (from < 0 || from > 2) {
            throw new IllegalArgumentException("from is not 0 .. 2");
        }
        Opening opening = proc.openingAt(d);
        if (opening == null || opening.file == null) {
            return BAD;
        }
        int base = from == 0 ? 0 : from == 1 ? opening.position : opening.file.length;
        // In long, as base and v together may be more than an int holds.
        long wanted = (long) base + v;
        if (wanted < 0 || wanted > FILE_BYTES) {
            return BAD;
        }
        opening.position = (int) wanted;
        return opening.position;
    }

    public int unlink(int p, int name) throws IllegalStateException, IllegalArgumentException {
        readyProc(p);
        checkName(name);
        StoredFile file = fileNamed(name);
        if (file == null) {
            return MISSING;
        }
        file.name = NO_NAME;
        return DONE;
    }

    public int rename(int p, int name, int other) throws IllegalStateException, IllegalArgumentException {
        readyProc(p);
        checkName(name);
        checkName(other);
        StoredFile file = fileNamed(name);
        if (file == null) {
            return MISSING;
        }
        StoredFile loser = fileNamed(other);
        if (loser != null) {
            loser.name = NO_NAME;
        }
        // Last, so that a file that gets its own name keeps it.
        file.name = other;
        return DONE;
    }

    public int type(int b) throws IllegalArgumentException {
        if (b < 0 || b > 255) {
            throw new IllegalArgumentException("not a byte");
        }
        if (typedBytes.size >= TYPED_BYTES) {
            return ROOM;
        }
        typedBytes.addLast(b);
        return wakeAll();
    }

    public int shown(int k) {
        return k >= 0 && k < shownBytes.size ? shownBytes.byteAt(k) : NONE;
    }

    public int state(int p, int what) {
        Proc proc = procThere(p);
        switch (what) {
            case 0:
                return proc == null ? ABSENT : proc.condition;
            case 1:
                return proc == null ? NONE : proc.waitsThrough;
            case 2:
                return proc == null ? 0 : proc.wants;
            default:
                return NONE;
        }
    }

    public int about(int p, int d, int what) {
        if (p < 0 || p >= PROCESSES || d < 0 || d >= DESCRIPTORS) {
            return NONE;
        }
        Opening opening = procs[p].openingAt(d);
        if (opening == null) {
            return what == 0 ? 0 : NONE;
        }
        switch (what) {
            case 0:
                return kindOf(opening);
            case 1:
                return opening.holders;
            case 2:
                return bytesIn(opening);
            case 3:
                return opening.position;
            case 4:
                return opening.rights;
            default:
                return NONE;
        }
    }

    public int count(int what) {
        switch (what) {
            case 0:
                return procsThere();
            case 1:
                return procsWaiting();
            case 2:
                return openingsThere();
            case 3:
                return pipesThere();
            case 4:
                return filesThere();
            case 5:
                return filesWithNames();
            case 6:
                return bytesInPipes();
            case 7:
                return shownInAll;
            case 8:
                return Integer.bitCount(waitingInVain());
            default:
                return NONE;
        }
    }

    private Proc procThere(int p) {
        if (p < 0 || p >= PROCESSES || procs[p].condition == ABSENT) {
            return null;
        }
        return procs[p];
    }

    private Proc readyProc(int p) {
        Proc proc = procThere(p);
        if (proc == null || proc.condition != READY) {
            throw new IllegalStateException("the process is absent or waits");
        }
        return proc;
    }

    private static void checkName(int name) {
        if (name < 1 || name > NAMES) {
            throw new IllegalArgumentException("a name is 1 .. 9");
        }
    }

    private static void checkAmount(int n) {
        if (n < 0 || n > BYTES_A_CALL) {
            throw new IllegalArgumentException("n is not 0 .. 8");
        }
    }

    private static void checkHow(int how) {
        boolean known = how >= 1 && how <= ALL_HOW;
        boolean writes = (how & WRITES) != 0;
        boolean opens = writes || (how & READS) != 0;
        boolean needsWrites = (how & (APPENDS | EMPTIES)) != 0;
        boolean needsMakes = (how & MUST_BE_MISSING) != 0;
        if (!known || !opens || needsWrites && !writes || needsMakes && (how & MAKES) == 0) {
            throw new IllegalArgumentException("there is no such way to open");
        }
    }

    private int leastAbsent() {
        for (int p = 0; p < PROCESSES; p++) {
            if (procs[p].condition == ABSENT) {
                return p;
            }
        }
        return NONE;
    }

    private Opening freeOpening(Opening butNot) {
        for (Opening opening : openings) {
            if (opening.holders == 0 && opening != butNot) {
                return opening;
            }
        }
        return null;
    }

    private Pipe freePipe() {
        for (Pipe pipe : pipes) {
            if (!pipe.isThere()) {
                return pipe;
            }
        }
        return null;
    }

    private StoredFile freeFile() {
        for (StoredFile file : files) {
            if (!file.isThere()) {
                return file;
            }
        }
        return null;
    }

    private StoredFile fileNamed(int name) {
        for (StoredFile file : files) {
            if (file.name == name) {
                return file;
            }
        }
        return null;
    }

    private int hindranceToRead(Opening opening, int n) {
        if (!opening.has(READS)) {
            return BAD;
        }
        if (n == 0 || opening.file != null) {
            return DONE;
        }
        if (opening.pipe != null) {
            return opening.pipe.bytes.size == 0 && opening.pipe.writers > 0 ? WAIT : DONE;
        }
        return typedBytes.size == 0 ? WAIT : DONE;
    }

    private static int hindranceToWrite(Opening opening, int n) {
        if (!opening.has(WRITES)) {
            return BAD;
        }
        if (opening.pipe != null) {
            if (opening.pipe.readers == 0) {
                return BROKEN;
            }
            return opening.pipe.bytes.size + n > PIPE_BYTES ? WAIT : DONE;
        }
        if (opening.file != null) {
            return placeToWrite(opening, opening.file) + n > FILE_BYTES ? ROOM : DONE;
        }
        return DONE;
    }

    private static int placeToWrite(Opening opening, StoredFile file) {
        return opening.has(APPENDS) ? file.length : opening.position;
    }

    private int take(Proc proc, Opening opening, int n) {
        if (opening.pipe != null) {
            return takeFromPipe(proc, opening.pipe, n);
        }
        if (opening.file != null) {
            return takeFromFile(proc, opening, opening.file, n);
        }
        return takeFromConsole(proc, n);
    }

    private static int takeFromPipe(Proc proc, Pipe pipe, int n) {
        int most = Math.min(n, pipe.bytes.size);
        for (int i = 0; i < most; i++) {
            proc.getByte(pipe.bytes.takeFirst());
        }
        return most;
    }

    private static int takeFromFile(Proc proc, Opening opening, StoredFile file, int n) {
        // The position may be behind the end: by a seek, or as the file was emptied since.
        int most = Math.max(0, Math.min(n, file.length - opening.position));
        for (int i = 0; i < most; i++) {
            proc.getByte(file.byteAt(opening.position + i));
        }
        opening.position += most;
        return most;
    }

    private int takeFromConsole(Proc proc, int n) {
        int most = Math.min(n, typedBytes.size);
        for (int i = 0; i < most; i++) {
            int b = typedBytes.takeFirst();
            if (b == END_BYTE) {
                return i;
            }
            proc.getByte(b);
        }
        return most;
    }

    private void put(Opening opening, long bytes, int n) {
        // Nothing to write must not move an appending opening to the file's end.
        if (n > 0 && opening.file != null) {
            opening.position = placeToWrite(opening, opening.file);
        }
        for (int i = n - 1; i >= 0; i--) {
            putByte(opening, (int) (bytes >>> (8 * i)) & 255);
        }
    }

    private void putByte(Opening opening, int b) {
        if (opening.pipe != null) {
            opening.pipe.bytes.addLast(b);
        } else if (opening.file != null) {
            opening.file.put(opening.position, b);
            opening.position++;
        } else {
            showByte(b);
        }
    }

    private void showByte(int b) {
        if (shownBytes.size >= SHOWN_BYTES) {
            shownBytes.takeFirst();
        }
        shownBytes.addLast(b);
        shownInAll++;
    }

    private int wakeAll() {
        int woken = 0;
        for (Proc proc : procs) {
            if (proc.isWaiting() && !mustWait(proc)) {
                proc.beReady();
                woken++;
            }
        }
        return woken;
    }

    private boolean mustWait(Proc proc) {
        Opening opening = proc.openingAt(proc.waitsThrough);
        if (opening == null) {
            return false;
        }
        int hindrance = proc.condition == WAITS_TO_READ
                ? hindranceToRead(opening, proc.wants)
                : hindranceToWrite(opening, proc.wants);
        return hindrance == WAIT;
    }

    private static int kindOf(Opening opening) {
        if (opening.pipe != null) {
            return opening.has(READS) ? 1 : 2;
        }
        return opening.file != null ? 3 : 4;
    }

    private int bytesIn(Opening opening) {
        if (opening.pipe != null) {
            return opening.pipe.bytes.size;
        }
        return opening.file != null ? opening.file.length : typedBytes.size;
    }

    private int procsThere() {
        int there = 0;
        for (Proc proc : procs) {
            there += proc.condition != ABSENT ? 1 : 0;
        }
        return there;
    }

    private int procsWaiting() {
        int waiting = 0;
        for (Proc proc : procs) {
            waiting += proc.isWaiting() ? 1 : 0;
        }
        return waiting;
    }

    private int openingsThere() {
        int there = 0;
        for (Opening opening : openings) {
            there += opening.holders > 0 ? 1 : 0;
        }
        return there;
    }

    private int pipesThere() {
        int there = 0;
        for (Pipe pipe : pipes) {
            there += pipe.isThere() ? 1 : 0;
        }
        return there;
    }

    private int filesThere() {
        int there = 0;
        for (StoredFile file : files) {
            there += file.isThere() ? 1 : 0;
        }
        return there;
    }

    private int filesWithNames() {
        int named = 0;
        for (StoredFile file : files) {
            named += file.name != NO_NAME ? 1 : 0;
        }
        return named;
    }

    private int bytesInPipes() {
        int bytes = 0;
        for (Pipe pipe : pipes) {
            bytes += pipe.bytes.size;
        }
        return bytes;
    }

    /** The processes that wait in vain, a bit each. */
    private int waitingInVain() {
        // From all of them down, so that the most stay; each round drops one at least, or none ever will.
        int vain = (1 << PROCESSES) - 1;
        for (int round = 0; round < PROCESSES; round++) {
            vain = vainAmong(vain);
        }
        return vain;
    }

    private int vainAmong(int vain) {
        int kept = 0;
        for (int p = 0; p < PROCESSES; p++) {
            int bit = 1 << p;
            if ((vain & bit) != 0 && waitsForNoneBut(procs[p], vain)) {
                kept |= bit;
            }
        }
        return kept;
    }

    private boolean waitsForNoneBut(Proc proc, int vain) {
        Opening opening = proc.isWaiting() ? proc.openingAt(proc.waitsThrough) : null;
        if (opening == null || opening.pipe == null) {
            return false;
        }
        int otherRight = opening.has(READS) ? WRITES : READS;
        return (holdersOfEnd(opening.pipe, otherRight) & ~vain) == 0;
    }

    private int holdersOfEnd(Pipe pipe, int right) {
        int holders = 0;
        for (int p = 0; p < PROCESSES; p++) {
            if (procs[p].holdsEnd(pipe, right)) {
                holders |= 1 << p;
            }
        }
        return holders;
    }
}
