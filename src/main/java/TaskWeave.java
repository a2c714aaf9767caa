import java.util.ArrayList;
import java.util.Arrays;
import java.util.NoSuchElementException;

/** Workflows whose histories lie in the logs of replicated shards. The document's promises are named by number. */
public final class TaskWeave {
    public static final int NONE = -1;

    private static final int SHARDS = 4;
    private static final int PROGRAMS = 8;
    private static final int LOCALS = 8;
    private static final int TAPE_MAX = 300;
    private static final int STEPS_MAX = 60;
    private static final int EVENTS_MAX = 60;
    private static final int WALK_MAX = 200;
    private static final int ROWS_MAX = 16;
    private static final int TRIES_MAX = 5;
    private static final int LEASE_TICKS = 10;
    private static final int TICKS_MAX = 500;
    private static final int REPLICAS_MIN = 3;
    private static final int REPLICAS_MAX = 5;
    private static final int FUSE_MAX = 100000;
    private static final int BLOCK = 512;
    private static final int RECORD = 16;

    /** An ORIGIN holds a workflow's number and a place below this. */
    private static final int ORIGIN_SPAN = 64;

    // Kinds of records: 0 .. 12 are those of events.
    private static final int STARTED = 0;
    private static final int WORK = 1;
    private static final int RESULT = 2;
    private static final int GIVEN_UP = 3;
    private static final int TIMER = 4;
    private static final int FIRED = 5;
    private static final int CHILD = 6;
    private static final int CHILD_END = 7;
    private static final int SIGNAL = 8;
    private static final int SENT = 9;
    private static final int ENDED = 10;
    private static final int CANCELLED = 11;
    private static final int OVER = 12;
    private static final int LEADER = 13;
    private static final int GONE = 14;
    private static final int TRIED = 15;

    // What a workflow is doing, as workflow(w, 0) tells it.
    private static final int WAITS_WORK = 0;
    private static final int WAITS_TIME = 1;
    private static final int WAITS_SIGNAL = 2;
    private static final int WAITS_CHILD = 3;
    private static final int HAS_ENDED = 4;
    private static final int GOES_ON = 5;

    // Values that a workflow ends with, or that a child that never was ends with.
    private static final int VALUE_LOST = -1;
    private static final int VALUE_CANCELLED = -2;
    private static final int VALUE_UNBORN = -3;

    // A step in a program's code: its letter or operator, the local that it sets (or the step that it goes to), its
    // digit, that digit's place on the tape, and two values, each a local (or NONE) with a number behind it.
    private static final int STRIDE = 8;
    private static final int LETTER = 0;
    private static final int GOAL = 1;
    private static final int DIGIT = 2;
    private static final int DIGIT_AT = 3;
    private static final int X = 4;
    private static final int Y = 6;

    private final Parser parser = new Parser();
    private final Clock clock;
    private final Shelf[] shelves;
    private final Shard[] shards = new Shard[SHARDS];
    private int tokens;

    public TaskWeave() {
        Clock sharedClock = new Clock();
        Shelf[] sharedShelves = new Shelf[PROGRAMS];
        for (int p = 0; p < PROGRAMS; p++) {
            sharedShelves[p] = new Shelf();
        }
        for (int s = 0; s < SHARDS; s++) {
            shards[s] = new Shard(s, sharedClock, sharedShelves);
        }
        clock = sharedClock;
        shelves = sharedShelves;
    }

    // ---- Promises 2 to 4: the tape and the programs ----

    public boolean type(long word, int n) {
        return parser.append(word, n);
    }

    public int program(int p) throws IllegalArgumentException, IndexOutOfBoundsException {
        if (p < 0 || p >= PROGRAMS) {
            parser.clear();
            throw new IndexOutOfBoundsException("no such program");
        }
        Program made = parser.parse();
        if (made == null) {
            throw new IllegalArgumentException("the text has a fault");
        }
        shelves[p].versions.add(made);
        return made.steps;
    }

    public int fault() {
        return parser.faultAt;
    }

    // ---- Promises 5 to 8: what clients ask of workflows ----

    public int start(int request, int p, int argument) {
        if (request < 0) {
            return NONE;
        }
        Shard home = shards[request % SHARDS];
        if (!home.works()) {
            return NONE;
        }
        Workflow known = home.rowWithOrigin(request);
        if (known != null) {
            return known.id;
        }
        if (!home.hasRoomFor(p)) {
            return NONE;
        }
        int id = home.number + SHARDS * home.count;
        boolean done = home.begin(p, argument, request);
        home.settle();
        return done ? id : NONE;
    }

    public boolean signal(int request, int w, int v) {
        Workflow row = find(w);
        if (request < 0 || row == null) {
            return false;
        }
        Shard home = shards[w % SHARDS];
        if (!home.works()) {
            return false;
        }
        if (row.history.hasSignalFrom(request)) {
            return true;
        }
        if (row.phase == HAS_ENDED) {
            return false;
        }
        boolean done = home.bring(row, SIGNAL, v, 0, request);
        home.settle();
        return done;
    }

    public boolean cancel(int w) {
        Workflow row = find(w);
        if (row == null || row.phase == HAS_ENDED) {
            return false;
        }
        Shard home = shards[w % SHARDS];
        boolean done = home.works() && home.bring(row, CANCELLED, VALUE_CANCELLED, 0, 0);
        home.settle();
        return done;
    }

    public int query(int w, int v) throws NoSuchElementException, IllegalStateException {
        Workflow row = find(w);
        if (row == null || v < 0 || v >= LOCALS) {
            throw new NoSuchElementException("no such local");
        }
        if (!shards[w % SHARDS].works()) {
            throw new IllegalStateException("its shard does not work");
        }
        return row.locals[v];
    }

    // ---- Promises 9 to 13: workers and their tasks ----

    public int poll(int kind) {
        Workflow longest = null;
        for (int w = 0; w < SHARDS * ROWS_MAX; w++) {
            Workflow row = find(w);
            boolean had = row != null && shards[w % SHARDS].works() && row.offers(kind, clock.now);
            if (had && (longest == null || row.task.since < longest.task.since)) {
                longest = row;
            }
        }
        if (longest == null) {
            return NONE;
        }
        tokens++;
        longest.task.token = tokens;
        longest.task.until = clock.now + LEASE_TICKS;
        return tokens;
    }

    public boolean beat(int token) {
        Workflow row = leased(token);
        if (row == null) {
            return false;
        }
        row.task.until = clock.now + LEASE_TICKS;
        return true;
    }

    public boolean finish(int token, int value) {
        Workflow row = leased(token);
        if (row == null) {
            return false;
        }
        Shard home = shards[row.id % SHARDS];
        boolean done = home.bring(row, RESULT, value, 0, 0);
        home.settle();
        return done;
    }

    public boolean fail(int token) {
        Workflow row = leased(token);
        if (row == null) {
            return false;
        }
        Shard home = shards[row.id % SHARDS];
        boolean done = home.failTask(row);
        home.settle();
        return done;
    }

    public int task(int token, int what) {
        Workflow row = leased(token);
        if (row == null) {
            return NONE;
        }
        switch (what) {
            case 0: return row.id;
            case 1: return row.task.x;
            case 2: return row.task.tries;
            case 3: return row.task.until;
            default: return NONE;
        }
    }

    // ---- Promise 14: time ----

    public int tick(int n) throws IllegalArgumentException {
        if (n < 1 || n > TICKS_MAX) {
            throw new IllegalArgumentException("not 1 to 500 ticks");
        }
        int end = clock.now + n;
        for (int i = 0; i < n && clock.now != end; i++) {
            long before = recordsTried();
            clock.now++;
            for (int s = 0; s < SHARDS; s++) {
                shards[s].passTime();
            }
            for (int s = 0; s < SHARDS; s++) {
                sendAll(shards[s]);
            }
            if (recordsTried() == before) {
                clock.now = lastQuietTick(end);
            }
        }
        return clock.now;
    }

    // ---- Promises 15 to 17: replicas, power and fuses ----

    public boolean replicas(int shard, int n) {
        if (shard < 0 || shard >= SHARDS || n < REPLICAS_MIN || n > REPLICAS_MAX) {
            return false;
        }
        return shards[shard].renew(n);
    }

    public boolean power(int shard, int replica, boolean up) {
        Replica disk = findReplica(shard, replica);
        if (disk == null || disk.up == up) {
            return false;
        }
        if (up) {
            shards[shard].raise(disk);
        } else {
            shards[shard].lower(disk);
        }
        shards[shard].settle();
        return true;
    }

    public boolean fuse(int shard, int replica, int bytes) {
        Replica disk = findReplica(shard, replica);
        if (disk == null || !disk.up || bytes < 0 || bytes > FUSE_MAX) {
            return false;
        }
        disk.fuseLeft = bytes;
        return true;
    }

    // ---- Promises 18 to 22: what there is to be seen ----

    public int workflow(int w, int what) {
        Workflow row = find(w);
        if (row == null) {
            return NONE;
        }
        switch (what) {
            case 0: return row.phase;
            case 1: return row.outcome;
            case 2: return row.history.size;
            case 3: return row.history.as[0] % PROGRAMS;
            case 4: return row.children;
            case 5: return row.history.count(SIGNAL, row.history.size) - row.taken;
            case 6: return row.parent();
            default: return NONE;
        }
    }

    public int event(int w, int k, int what) throws NoSuchElementException, IndexOutOfBoundsException {
        Workflow row = find(w);
        if (row == null || k < 0 || k >= row.history.size) {
            throw new NoSuchElementException("no such event");
        }
        switch (what) {
            case 0: return row.history.kinds[k];
            case 1: return row.history.as[k];
            case 2: return row.history.bs[k];
            case 3: return row.history.origins[k];
            default: throw new IndexOutOfBoundsException("an event tells 0 to 3");
        }
    }

    public int shard(int s, int what) {
        if (s < 0 || s >= SHARDS) {
            return NONE;
        }
        switch (what) {
            case 0: return shards[s].leader;
            case 1: return shards[s].term;
            case 2: return shards[s].size;
            case 3: return shards[s].count;
            case 4: return shards[s].outbox.size;
            case 5: return shards[s].countTasks(false);
            case 6: return shards[s].countTasks(true);
            default: return NONE;
        }
    }

    public int replica(int s, int r, int what) {
        Replica disk = findReplica(s, r);
        if (disk == null) {
            return NONE;
        }
        switch (what) {
            case 0: return disk.up ? 1 : 0;
            case 1: return disk.size / RECORD;
            case 2: return disk.size % RECORD;
            case 3: return disk.fuseLeft;
            default: return NONE;
        }
    }

    public int disk(int s, int r, int block, int i) {
        Replica disk = findReplica(s, r);
        if (disk == null || block < 0 || i < 0 || i >= BLOCK) {
            return NONE;
        }
        int written = (disk.size + BLOCK - 1) / BLOCK;
        return block < written ? disk.byteAt(block * BLOCK + i) : NONE;
    }

    // ---- Finding ----

    private Workflow find(int w) {
        return w < 0 ? null : shards[w % SHARDS].row(w / SHARDS);
    }

    private Replica findReplica(int s, int r) {
        return s < 0 || s >= SHARDS || r < 0 || r >= shards[s].size ? null : shards[s].disks[r];
    }

    /** Tokens end with their leases, so one that a task still has is a lease in a shard that works. */
    private Workflow leased(int token) {
        for (int w = 0; w < SHARDS * ROWS_MAX && token > 0; w++) {
            Workflow row = find(w);
            if (row != null && row.task.token == token) {
                return row;
            }
        }
        return null;
    }

    private static int originOf(int w, int k) {
        return -1 - (ORIGIN_SPAN * w + k);
    }

    // ---- Ticks ----

    private long recordsTried() {
        long sum = 0;
        for (int s = 0; s < SHARDS; s++) {
            sum += shards[s].recordsTried;
        }
        return sum;
    }

    /** Behind a tick in which no record was tried nothing can change until a timer or a lease is due. */
    private int lastQuietTick(int end) {
        int quiet = end;
        for (int w = 0; w < SHARDS * ROWS_MAX; w++) {
            Workflow row = find(w);
            if (row != null && shards[w % SHARDS].works() && row.hasDeadline()) {
                quiet = Math.min(quiet, row.deadline() - 1);
            }
        }
        return Math.max(quiet, clock.now);
    }

    /** Goes by places, not by indices: an election in the midst builds the outbox anew, yet places stay. */
    private void sendAll(Shard from) {
        int limit = from.works() ? from.records() : 0;
        int place = NONE;
        for (int turn = 0; turn < limit && from.works(); turn++) {
            int i = from.outbox.firstBehind(place);
            Workflow sender = i == NONE ? null : from.row(from.outbox.rows[i]);
            if (sender == null || from.outbox.places[i] >= limit) {
                return;
            }
            place = from.outbox.places[i];
            int k = from.outbox.events[i];
            int kind = sender.history.kinds[k];
            boolean done = kind == CHILD ? sendStart(from, sender, k)
                : kind == SENT ? sendSignal(sender, k) : sendEnd(sender, k);
            if (done && from.works()) {
                from.forget(place);
                from.settle();
            }
        }
    }

    /** True if there is no more to do for it. */
    private boolean sendStart(Shard from, Workflow parent, int k) {
        int p = parent.history.as[k];
        Shard target = shards[Math.floorMod(from.number + p, SHARDS)];
        if (!target.works()) {
            return false;
        }
        int child = parent.history.count(CHILD, k);
        int origin = originOf(parent.id, child);
        if (target.rowWithOrigin(origin) != null || parent.history.endOfChild(child) != NONE) {
            return true;
        }
        boolean done = true;
        if (target.hasRoomFor(p)) {
            done = target.begin(p, parent.history.bs[k], origin);
            target.settle();
        } else if (parent.phase != HAS_ENDED) {
            done = from.bring(parent, CHILD_END, child, VALUE_UNBORN, 0);
            from.settle();
        }
        return done;
    }

    /** True if there is no more to do for it. */
    private boolean sendSignal(Workflow sender, int k) {
        int child = sender.history.as[k];
        Shard target = shards[sender.shardOf(child)];
        if (!target.works()) {
            return false;
        }
        Workflow hearer = child == NONE ? find(sender.parent()) : target.rowWithOrigin(originOf(sender.id, child));
        int origin = originOf(sender.id, k);
        if (hearer == null || hearer.phase == HAS_ENDED || hearer.history.hasSignalFrom(origin)) {
            return true;
        }
        boolean done = target.bring(hearer, SIGNAL, sender.history.bs[k], 0, origin);
        target.settle();
        return done;
    }

    /** True if there is no more to do for it. */
    private boolean sendEnd(Workflow child, int k) {
        Shard target = shards[child.shardOf(NONE)];
        if (!target.works()) {
            return false;
        }
        Workflow parent = find(child.parent());
        int number = child.numberAsChild();
        if (parent == null || parent.phase == HAS_ENDED || parent.history.endOfChild(number) != NONE) {
            return true;
        }
        boolean done = target.bring(parent, CHILD_END, number, child.history.as[k], 0);
        target.settle();
        return done;
    }

    private static final class Clock {
        int now;
    }

    /** All versions of one program: workflows that began with an earlier one are built again with it. */
    private static final class Shelf {
        final ArrayList<Program> versions = new ArrayList<>();
    }

    private static final class Program {
        final int steps;
        final int[] code;

        Program(int steps, int[] code) {
            this.steps = steps;
            this.code = code;
        }
    }

    /** Each reader stops at the first character that can't stand there: where they have stopped is the fault. */
    private static final class Parser {
        private final char[] text = new char[TAPE_MAX];
        private final int[] code = new int[STEPS_MAX * STRIDE];
        private final int[] labels = new int[10];
        private int length;
        private int at;
        int faultAt = NONE;

        boolean append(long word, int n) {
            if (n < 1 || n > 8 || length + n > TAPE_MAX) {
                return false;
            }
            for (int i = 0; i < n; i++) {
                long c = (word >>> (8 * i)) & 255;
                if (c < 33 || c > 126) {
                    return false;
                }
            }
            for (int i = n - 1; i >= 0; i--) {
                text[length] = (char) ((word >>> (8 * i)) & 255);
                length++;
            }
            return true;
        }

        void clear() {
            length = 0;
            faultAt = NONE;
        }

        /** The tape's program, or null if it has a fault; the tape is empty then. */
        Program parse() {
            int steps = readSteps();
            int found = steps == NONE ? at : linkLabels(steps);
            clear();
            faultAt = found;
            return found == NONE ? new Program(steps, Arrays.copyOf(code, steps * STRIDE)) : null;
        }

        private int readSteps() {
            Arrays.fill(labels, NONE);
            at = 0;
            int steps = 0;
            while (steps < STEPS_MAX && at < length) {
                if (!readLabel(steps) || !readStep(steps * STRIDE) || !accept(';')) {
                    return NONE;
                }
                steps++;
            }
            return at < length ? NONE : steps;
        }

        /** The place of the first digit without a label, NONE if all have theirs. */
        private int linkLabels(int steps) {
            for (int base = 0; base < steps * STRIDE; base += STRIDE) {
                if (code[base + LETTER] == 'I' || code[base + LETTER] == 'G') {
                    int goal = labels[code[base + DIGIT]];
                    if (goal == NONE) {
                        return code[base + DIGIT_AT];
                    }
                    code[base + GOAL] = goal;
                }
            }
            return NONE;
        }

        private char peek() {
            return at < length ? text[at] : 0;
        }

        private boolean accept(char c) {
            boolean there = at < length && text[at] == c;
            at += there ? 1 : 0;
            return there;
        }

        private boolean readLabel(int step) {
            int digit = peek() - '0';
            if (digit < 0 || digit > 9) {
                return true;
            }
            if (labels[digit] != NONE) {
                return false;
            }
            labels[digit] = step;
            at++;
            return accept(':');
        }

        private boolean readStep(int base) {
            for (int i = 0; i < STRIDE; i++) {
                code[base + i] = 0;
            }
            code[base + X] = NONE;
            code[base + Y] = NONE;
            char c = peek();
            if (isLocal(c)) {
                code[base + GOAL] = c - 'a';
                at++;
                return accept('=') && readRightSide(base);
            }
            if (c != 'T' && c != 'S' && c != 'I' && c != 'G' && c != 'E') {
                return false;
            }
            code[base + LETTER] = c;
            at++;
            switch (c) {
                case 'G': return readDigit(base, '9');
                case 'I': return readBracket(base) && readDigit(base, '9');
                case 'S':
                    return accept('(') && readValue(base + X) && accept(',') && readValue(base + Y) && accept(')');
                default: return readBracket(base);
            }
        }

        private boolean readRightSide(int base) {
            char c = peek();
            if (c != 'A' && c != 'W' && c != 'C' && c != 'J') {
                return readReckoning(base);
            }
            code[base + LETTER] = c;
            at++;
            switch (c) {
                case 'A': return readDigit(base, '9') && readBracket(base);
                case 'C': return readDigit(base, '7') && readBracket(base);
                case 'J': return readBracket(base);
                default: return true;
            }
        }

        /** A value alone is kept as its sum with 0. */
        private boolean readReckoning(int base) {
            code[base + LETTER] = '+';
            if (!readValue(base + X)) {
                return false;
            }
            char c = peek();
            if (c != '+' && c != '-' && c != '*' && c != '<' && c != '=') {
                return true;
            }
            code[base + LETTER] = c;
            at++;
            return readValue(base + Y);
        }

        private boolean readBracket(int base) {
            return accept('(') && readValue(base + X) && accept(')');
        }

        private boolean readDigit(int base, char last) {
            char c = peek();
            if (c < '0' || c > last) {
                return false;
            }
            code[base + DIGIT] = c - '0';
            code[base + DIGIT_AT] = at;
            at++;
            return true;
        }

        private boolean readValue(int slot) {
            if (isLocal(peek())) {
                code[slot] = peek() - 'a';
                at++;
                return true;
            }
            boolean below = accept('-');
            int value = 0;
            int digits = 0;
            while (digits < 5 && peek() >= '0' && peek() <= '9') {
                value = 10 * value + peek() - '0';
                at++;
                digits++;
            }
            code[slot + 1] = below ? -value : value;
            return digits > 0;
        }

        private static boolean isLocal(char c) {
            return c >= 'a' && c <= 'h';
        }
    }

    /** A disk: bytes that lie behind its size count as never written. */
    private static final class Replica {
        final int number;
        byte[] bytes = new byte[BLOCK];
        int size;
        boolean up = true;
        int fuseLeft = NONE;

        Replica(int number) {
            this.number = number;
        }

        int byteAt(int i) {
            return i >= 0 && i < size ? bytes[i] & 255 : 0;
        }

        int wordAt(int i) {
            return byteAt(i) << 24 | byteAt(i + 1) << 16 | byteAt(i + 2) << 8 | byteAt(i + 3);
        }

        int lastTerm() {
            int last = size - RECORD;
            return last < 0 ? 0 : (bytes[last + 1] & 255) << 8 | bytes[last + 2] & 255;
        }

        /** Writes what stands in another row of bytes, up to where its power fails. */
        void write(byte[] row, int from, int to) {
            for (int i = from; i < to && up; i++) {
                if (fuseLeft == 0) {
                    up = false;
                    fuseLeft = NONE;
                } else {
                    if (size == bytes.length) {
                        bytes = Arrays.copyOf(bytes, 2 * size);
                    }
                    bytes[size] = row[i];
                    size++;
                    fuseLeft = fuseLeft == NONE ? NONE : fuseLeft - 1;
                }
            }
        }

        boolean isAheadOf(Replica other) {
            int mine = lastTerm();
            int its = other.lastTerm();
            return mine > its || mine == its && size > other.size;
        }

        boolean sameRecord(Replica other, int place) {
            for (int i = place * RECORD; i < (place + 1) * RECORD; i++) {
                if (i >= size || i >= other.size || bytes[i] != other.bytes[i]) {
                    return false;
                }
            }
            return true;
        }
    }

    /** The events of one workflow. */
    private static final class History {
        final int[] kinds = new int[EVENTS_MAX];
        final int[] as = new int[EVENTS_MAX];
        final int[] bs = new int[EVENTS_MAX];
        final int[] origins = new int[EVENTS_MAX];
        int size;

        void add(int kind, int a, int b, int origin) {
            if (size < EVENTS_MAX) {
                kinds[size] = kind;
                as[size] = a;
                bs[size] = b;
                origins[size] = origin;
                size++;
            }
        }

        int count(int kind, int end) {
            int sum = 0;
            for (int k = 0; k < end && k < size; k++) {
                sum += kinds[k] == kind ? 1 : 0;
            }
            return sum;
        }

        /** The place of the n-th event of a kind, from 0 on; NONE without it. */
        int placeOf(int kind, int n) {
            int left = n;
            for (int k = 0; k < size; k++) {
                if (kinds[k] == kind) {
                    if (left == 0) {
                        return k;
                    }
                    left--;
                }
            }
            return NONE;
        }

        int endOfChild(int child) {
            for (int k = 0; k < size; k++) {
                if (kinds[k] == CHILD_END && as[k] == child) {
                    return k;
                }
            }
            return NONE;
        }

        boolean hasSignalFrom(int origin) {
            for (int k = 0; k < size; k++) {
                if (kinds[k] == SIGNAL && origins[k] == origin) {
                    return true;
                }
            }
            return false;
        }
    }

    /** The work that a workflow waits for; a token above 0 is a lease. */
    private static final class Task {
        int kind;
        int x;
        int tries;
        int since;
        int token;
        int until;

        void open(int newKind, int newX, int now) {
            kind = newKind;
            x = newX;
            tries = 1;
            since = now;
            token = 0;
        }

        void ready(int newTries, int newSince) {
            tries = newTries;
            since = newSince;
            token = 0;
        }
    }

    private static final class Workflow {
        final int id;
        final int[] locals = new int[LOCALS];
        final History history = new History();
        final Task task = new Task();
        Program program;
        int step;
        int walked;
        int phase;
        int awaited;
        int taken;
        int children;
        int outcome;
        int wantA;
        int wantB;

        Workflow(int id) {
            this.id = id;
        }

        void open(Program newProgram, int a, int argument, int origin) {
            program = newProgram;
            history.size = 0;
            history.add(STARTED, a, argument, origin);
            Arrays.fill(locals, 0);
            locals[0] = argument;
            task.token = 0;
            step = 0;
            walked = 0;
            phase = GOES_ON;
            taken = 0;
            children = 0;
            outcome = 0;
        }

        int parent() {
            int origin = history.origins[0];
            return origin < 0 ? (-1 - origin) / ORIGIN_SPAN : NONE;
        }

        int numberAsChild() {
            return (-1 - history.origins[0]) % ORIGIN_SPAN;
        }

        /** The shard of a child, or (NONE) of the parent. */
        int shardOf(int child) {
            int born = history.placeOf(CHILD, child);
            int near = child == NONE ? parent() : born == NONE ? id : id + history.as[born];
            return Math.floorMod(near, SHARDS);
        }

        boolean offers(int kind, int now) {
            return phase == WAITS_WORK && task.kind == kind && task.token == 0 && task.since <= now;
        }

        boolean hasDeadline() {
            return phase == WAITS_TIME || phase == WAITS_WORK && task.token > 0;
        }

        int deadline() {
            return phase == WAITS_TIME ? awaited : task.until;
        }

        boolean isMessage(int kind) {
            return kind == CHILD || kind == SENT || kind >= ENDED && history.origins[0] < 0;
        }

        /**
         * Goes on until a step needs an event: its kind, with wantA and wantB; NONE if it waits or has ended. It may
         * be asked again: a step that needs an event is gone only when that is taken.
         */
        int run(int now) {
            for (int i = 0; i <= WALK_MAX && phase == GOES_ON && program != null; i++) {
                int kind = wish(now);
                if (kind != NONE) {
                    return kind;
                }
                walk();
            }
            return NONE;
        }

        private int wish(int now) {
            if (step >= program.steps) {
                return want(ENDED, 0, 0);
            }
            if (walked >= WALK_MAX) {
                return want(OVER, VALUE_LOST, 0);
            }
            int base = step * STRIDE;
            int x = value(base + X);
            switch (program.code[base + LETTER]) {
                case 'A': return want(WORK, program.code[base + DIGIT], x);
                case 'T': return want(TIMER, now + Math.max(x, 0), 0);
                case 'C': return want(CHILD, program.code[base + DIGIT], x);
                case 'S': return hasKin(x) ? want(SENT, x, value(base + Y)) : NONE;
                case 'E': return want(ENDED, x, 0);
                default: return NONE;
            }
        }

        private int want(int kind, int a, int b) {
            wantA = a;
            wantB = b;
            return kind;
        }

        private boolean hasKin(int x) {
            return x == NONE ? history.origins[0] < 0 : x >= 0 && x < children;
        }

        private int value(int slot) {
            int local = program.code[slot];
            return local == NONE ? program.code[slot + 1] : locals[local];
        }

        /** A step that needs no event. */
        private void walk() {
            int base = step * STRIDE;
            int x = value(base + X);
            int letter = program.code[base + LETTER];
            int found;
            switch (letter) {
                case 'G': leave(program.code[base + GOAL]); break;
                case 'I': leave(x != 0 ? program.code[base + GOAL] : step + 1); break;
                case 'S': leave(step + 1); break;
                case 'W':
                    found = history.placeOf(SIGNAL, taken);
                    if (found == NONE) {
                        rest(WAITS_SIGNAL, 0);
                    } else {
                        taken++;
                        set(history.as[found]);
                    }
                    break;
                case 'J':
                    found = history.endOfChild(x);
                    if (x >= 0 && x < children && found == NONE) {
                        rest(WAITS_CHILD, x);
                    } else {
                        set(x >= 0 && x < children ? history.bs[found] : VALUE_LOST);
                    }
                    break;
                default: set(reckon(letter, x, value(base + Y))); break;
            }
        }

        private static int reckon(int operator, int x, int y) {
            switch (operator) {
                case '-': return x - y;
                case '*': return x * y;
                case '<': return x < y ? 1 : 0;
                case '=': return x == y ? 1 : 0;
                default: return x + y;
            }
        }

        private void leave(int next) {
            step = next;
            walked++;
        }

        private void set(int v) {
            if (program != null && step < program.steps) {
                locals[program.code[step * STRIDE + GOAL]] = v;
            }
            step++;
            walked++;
        }

        private void rest(int newPhase, int what) {
            phase = newPhase;
            awaited = what;
        }

        /** The step in which it waited isn't counted, nor those ahead of it. */
        private void resume() {
            walked = 0;
            phase = GOES_ON;
        }

        void take(int kind, int a, int b, int origin, int now) {
            history.add(kind, a, b, origin);
            switch (kind) {
                case WORK:
                    task.open(a, b, now);
                    rest(WAITS_WORK, 0);
                    break;
                case TIMER: rest(WAITS_TIME, a); break;
                case CHILD:
                    set(children);
                    children++;
                    break;
                case SENT: leave(step + 1); break;
                case RESULT:
                case GIVEN_UP:
                    task.token = 0;
                    set(a);
                    resume();
                    break;
                case FIRED:
                    leave(step + 1);
                    resume();
                    break;
                case SIGNAL:
                    if (phase == WAITS_SIGNAL) {
                        taken++;
                        set(a);
                        resume();
                    }
                    break;
                case CHILD_END:
                    if (phase == WAITS_CHILD && awaited == a) {
                        set(b);
                        resume();
                    }
                    break;
                default:
                    task.token = 0;
                    phase = HAS_ENDED;
                    outcome = a;
                    break;
            }
        }
    }

    /** The messages of a shard that have no GONE as yet: where their records lie, and whose events they are. */
    private static final class Outbox {
        int[] places = new int[ROWS_MAX];
        int[] rows = new int[ROWS_MAX];
        int[] events = new int[ROWS_MAX];
        int size;

        void add(int place, int row, int k) {
            if (size == places.length) {
                places = Arrays.copyOf(places, 2 * size);
                rows = Arrays.copyOf(rows, 2 * size);
                events = Arrays.copyOf(events, 2 * size);
            }
            places[size] = place;
            rows[size] = row;
            events[size] = k;
            size++;
        }

        int firstBehind(int place) {
            for (int i = 0; i < size; i++) {
                if (places[i] > place) {
                    return i;
                }
            }
            return NONE;
        }

        void remove(int place) {
            int kept = 0;
            for (int i = 0; i < size; i++) {
                if (places[i] != place) {
                    places[kept] = places[i];
                    rows[kept] = rows[i];
                    events[kept] = events[i];
                    kept++;
                }
            }
            size = kept;
        }
    }

    /**
     * A shard with its replicas and with its workflows as its leader's log makes them. What is not done leaves no
     * leader; whoever brought it about calls settle() as soon as that is given up, for the election that is due.
     */
    private static final class Shard {
        final int number;
        private final Clock clock;
        private final Shelf[] shelves;
        final Replica[] disks = new Replica[REPLICAS_MAX];
        private final Workflow[] rows = new Workflow[ROWS_MAX];
        private final byte[] record = new byte[RECORD];
        final Outbox outbox = new Outbox();
        int size = REPLICAS_MIN;
        int leader;
        int term;
        int count;
        long recordsTried;

        Shard(int number, Clock clock, Shelf[] shelves) {
            this.number = number;
            this.clock = clock;
            this.shelves = shelves;
            for (int r = 0; r < REPLICAS_MAX; r++) {
                disks[r] = new Replica(r);
            }
            for (int n = 0; n < ROWS_MAX; n++) {
                rows[n] = new Workflow(number + SHARDS * n);
            }
        }

        boolean works() {
            return leader != NONE;
        }

        Workflow row(int n) {
            return n >= 0 && n < count ? rows[n] : null;
        }

        Workflow rowWithOrigin(int origin) {
            for (int n = 0; n < count; n++) {
                if (rows[n].history.origins[0] == origin) {
                    return rows[n];
                }
            }
            return null;
        }

        int records() {
            return leader == NONE ? 0 : disks[leader].size / RECORD;
        }

        boolean hasRoomFor(int p) {
            return count < ROWS_MAX && p >= 0 && p < PROGRAMS && !shelves[p].versions.isEmpty();
        }

        int countTasks(boolean leasedOnly) {
            int sum = 0;
            for (int n = 0; n < count; n++) {
                boolean counts = rows[n].phase == WAITS_WORK && (!leasedOnly || rows[n].task.token > 0);
                sum += counts ? 1 : 0;
            }
            return sum;
        }

        private boolean mostAreUp() {
            int sum = 0;
            for (int r = 0; r < size; r++) {
                sum += disks[r].up ? 1 : 0;
            }
            return 2 * sum > size;
        }

        private void loseLeader() {
            leader = NONE;
            for (int n = 0; n < count; n++) {
                rows[n].task.token = 0;
            }
        }

        // ---- Records ----

        /** True if the record is done; else there is no leader any more. */
        private boolean commit(int kind, int n, int a, int b, int c) {
            recordsTried++;
            record[0] = (byte) (16 * n + kind);
            record[1] = (byte) (term >> 8);
            record[2] = (byte) term;
            for (int i = 0; i < 4; i++) {
                int shift = 24 - 8 * i;
                record[3 + i] = (byte) (a >> shift);
                record[7 + i] = (byte) (b >> shift);
                record[11 + i] = (byte) (c >> shift);
            }
            record[15] = 1;
            boolean led = leader != NONE;
            if (led) {
                disks[leader].write(record, 0, RECORD);
                led = disks[leader].up;
            }
            for (int r = 0; r < size && led; r++) {
                if (r != leader) {
                    disks[r].write(record, 0, RECORD);
                }
            }
            if (led && mostAreUp()) {
                return true;
            }
            loseLeader();
            return false;
        }

        /** One event, or OVER in its place; true if that is done. */
        private boolean happen(Workflow w, int kind, int a, int b, int origin) {
            boolean full = kind < ENDED && w.history.size >= EVENTS_MAX - 1;
            int realKind = full ? OVER : kind;
            int realA = full ? VALUE_LOST : a;
            int realB = full ? 0 : b;
            int realOrigin = full ? 0 : origin;
            int place = records();
            if (!commit(realKind, w.id / SHARDS, realA, realB, realOrigin)) {
                return false;
            }
            w.take(realKind, realA, realB, realOrigin, clock.now);
            if (w.isMessage(realKind)) {
                outbox.add(place, w.id / SHARDS, w.history.size - 1);
            }
            return true;
        }

        private void goOn(Workflow w) {
            int kind = w.run(clock.now);
            for (int i = 0; i < EVENTS_MAX && kind != NONE; i++) {
                kind = happen(w, kind, w.wantA, w.wantB, 0) ? w.run(clock.now) : NONE;
            }
        }

        /** An event and all that it leads to; true if the event itself is done. */
        boolean bring(Workflow w, int kind, int a, int b, int origin) {
            if (!happen(w, kind, a, b, origin)) {
                return false;
            }
            goOn(w);
            return true;
        }

        /** To be asked only where there is room for it. */
        boolean begin(int p, int argument, int origin) {
            int n = count;
            int a = p + PROGRAMS * (shelves[p].versions.size() - 1);
            if (!commit(STARTED, n, a, argument, origin)) {
                return false;
            }
            openRow(n, a, argument, origin);
            goOn(rows[n]);
            return true;
        }

        private void openRow(int n, int a, int argument, int origin) {
            ArrayList<Program> versions = shelves[Math.floorMod(a, PROGRAMS)].versions;
            int version = Math.floorDiv(a, PROGRAMS);
            if (version >= 0 && version < versions.size()) {
                rows[n].open(versions.get(version), a, argument, origin);
                count = n + 1;
            }
        }

        boolean failTask(Workflow w) {
            int tries = w.task.tries + 1;
            if (tries >= TRIES_MAX) {
                return bring(w, GIVEN_UP, VALUE_LOST, 0, 0);
            }
            int since = clock.now + (1 << (tries - 1));
            if (!commit(TRIED, w.id / SHARDS, tries, since, 0)) {
                return false;
            }
            w.task.ready(tries, since);
            return true;
        }

        /** The GONE of a message. */
        void forget(int place) {
            if (commit(GONE, 0, place, 0, 0)) {
                outbox.remove(place);
            }
        }

        void passTime() {
            for (int n = 0; n < count && works(); n++) {
                if (rows[n].phase == WAITS_TIME && rows[n].awaited <= clock.now) {
                    bring(rows[n], FIRED, clock.now, 0, 0);
                    settle();
                }
            }
            for (int n = 0; n < count && works(); n++) {
                Task task = rows[n].task;
                if (rows[n].phase == WAITS_WORK && task.token > 0 && task.until <= clock.now) {
                    failTask(rows[n]);
                    settle();
                }
            }
        }

        // ---- Replicas and elections ----

        boolean renew(int n) {
            for (int r = 0; r < size; r++) {
                if (disks[r].size >= RECORD) {
                    return false;
                }
            }
            if (term != 0) {
                return false;
            }
            for (int r = 0; r < REPLICAS_MAX; r++) {
                disks[r].size = 0;
                disks[r].up = true;
                disks[r].fuseLeft = NONE;
            }
            size = n;
            leader = 0;
            return true;
        }

        void raise(Replica disk) {
            disk.up = true;
            disk.size -= disk.size % RECORD;
            if (works()) {
                makeAlike(disk, disks[leader]);
            }
        }

        void lower(Replica disk) {
            disk.up = false;
            disk.fuseLeft = NONE;
            if (disk.number == leader || !mostAreUp()) {
                loseLeader();
            }
        }

        private void makeAlike(Replica disk, Replica log) {
            int place = 0;
            int common = Math.min(disk.size, log.size) / RECORD;
            while (place < common && disk.sameRecord(log, place)) {
                place++;
            }
            disk.size = place * RECORD;
            disk.write(log.bytes, disk.size, log.size);
        }

        /** Each election that fails takes a replica down, so there are few. */
        void settle() {
            for (int i = 0; i <= REPLICAS_MAX && !works() && mostAreUp(); i++) {
                if (elect()) {
                    readLog(disks[leader]);
                    for (int n = 0; n < count && works(); n++) {
                        goOn(rows[n]);
                    }
                }
            }
        }

        /** True if the new leader's own record is done. */
        private boolean elect() {
            term++;
            leader = candidate();
            for (int r = 0; r < size && works(); r++) {
                if (r != leader && disks[r].up) {
                    makeAlike(disks[r], disks[leader]);
                }
            }
            return commit(LEADER, 0, leader, 0, 0);
        }

        private int candidate() {
            int best = NONE;
            for (int r = 0; r < size; r++) {
                if (disks[r].up && (best == NONE || disks[r].isAheadOf(disks[best]))) {
                    best = r;
                }
            }
            return best;
        }

        /** The steps between two events are gone ahead of the later one: a W or J then waits where it once did. */
        private void readLog(Replica log) {
            count = 0;
            outbox.size = 0;
            for (int place = 0; place < log.size / RECORD; place++) {
                int at = place * RECORD;
                int kind = log.byteAt(at) % 16;
                int n = log.byteAt(at) / 16;
                int a = log.wordAt(at + 3);
                int b = log.wordAt(at + 7);
                if (kind == STARTED) {
                    openRow(n, a, b, log.wordAt(at + 11));
                } else if (kind == GONE) {
                    outbox.remove(a);
                } else if (kind == TRIED) {
                    rows[n].task.ready(a, Math.max(clock.now, b));
                } else if (kind != LEADER) {
                    rows[n].run(clock.now);
                    rows[n].take(kind, a, b, log.wordAt(at + 11), clock.now);
                    if (rows[n].isMessage(kind)) {
                        outbox.add(place, n, rows[n].history.size - 1);
                    }
                }
            }
            for (int n = 0; n < count; n++) {
                rows[n].run(clock.now);
            }
        }
    }
}
