/**
 * Four threads run small programs over shared variables, one word at a time, in the order that a
 * schedule says.
 */
public final class AtomicThreads {
    public static final int IDLE = 0, READY = 1, PARKED = 2, DONE = 3, FAILED = 4;

    private static final int THREADS = 4;
    private static final int REGISTERS = 4;
    private static final int VARIABLES = 8;
    private static final int MOST_WORDS = 30;
    private static final int MOST_OPEN = 5;
    private static final int MOST_STEPS = 16;
    private static final int PRINTS_KEPT = 16;

    private static final int SET = 0;
    private static final int ADD = 1;
    private static final int SUB = 2;
    private static final int READ = 3;
    private static final int WRITE = 4;
    private static final int PRINT = 5;
    private static final int ATOMIC = 6;
    private static final int END = 7;
    private static final int RETRY = 8;
    private static final int EITHER = 9;
    private static final int OR = 10;
    private static final int IF = 11;
    private static final int ELSE = 12;
    private static final int WHILE = 13;
    private static final int THROW = 14;
    private static final int TRY = 15;
    private static final int CATCH = 16;

    /** No place, no mark, no wrong word. */
    private static final int NONE = -1;
    private static final int NO_SUCH_LIST = -2;

    /** What a step answers. */
    private static final int NO_STEP = -1;
    private static final int WENT_ON = 0;
    private static final int WAS_COMMITTED = 1;
    private static final int WAS_DISCARDED = 2;
    private static final int WAS_PARKED = 3;
    private static final int WAS_THROWN = 4;

    private final Memory memory;
    private final Paper paper;
    private final Strand[] strands;

    public AtomicThreads() {
        memory = new Memory();
        paper = new Paper();
        strands = new Strand[THREADS];
        for (int t = 0; t < THREADS; t++) {
            strands[t] = new Strand();
        }
    }

    public boolean add(int t, int kind, int a, int b) {
        Strand strand = strandOf(t);
        if (strand == null || strand.isUnderWay() || strand.program.isFull() || !isWord(kind, a, b)) {
            return false;
        }
        strand.program.append(kind, a, b);
        strand.state = IDLE;
        return true;
    }

    public boolean cut(int t, int n) {
        Strand strand = strandOf(t);
        if (strand == null || strand.isUnderWay() || n < 0 || n > strand.program.length) {
            return false;
        }
        strand.program.length = n;
        strand.state = IDLE;
        return true;
    }

    public int check(int t) {
        Strand strand = strandOf(t);
        return strand == null ? NO_SUCH_LIST : strand.program.goThrough();
    }

    public boolean start(int t) {
        Strand strand = strandOf(t);
        if (strand == null || strand.isUnderWay() || strand.program.goThrough() != NONE) {
            return false;
        }
        strand.begin();
        return true;
    }

    public boolean stop(int t) {
        Strand strand = strandOf(t);
        if (strand == null || !strand.isUnderWay()) {
            return false;
        }
        strand.leaveAttempt();
        strand.state = IDLE;
        return true;
    }

    public int step(int t) {
        Strand strand = strandOf(t);
        return strand == null || strand.state != READY ? NO_STEP : doWord(strand);
    }

    public int run(int schedule, int n) {
        if (n < 0 || n > MOST_STEPS) {
            return NO_STEP;
        }
        int made = 0;
        for (int k = 0; k < n; k++) {
            Strand strand = strandOf((schedule >> 2 * k) & 3);
            if (strand != null && strand.state == READY) {
                doWord(strand);
                made++;
            }
        }
        return made;
    }

    public boolean put(int v, int n) {
        if (!isVariable(v)) {
            return false;
        }
        memory.countCommit();
        memory.change(v, n);
        wake(1 << v);
        return true;
    }

    public int value(int v) {
        return isVariable(v) ? memory.values[v] : 0;
    }

    public int version(int v) {
        return isVariable(v) ? memory.versions[v] : 0;
    }

    public int commits() {
        return memory.commitCount;
    }

    public int state(int t) {
        Strand strand = strandOf(t);
        return strand == null ? NONE : strand.state;
    }

    public int place(int t) {
        Strand strand = strandOf(t);
        return strand == null || !strand.isUnderWay() ? NONE : strand.place;
    }

    public int register(int t, int r) {
        Strand strand = strandOf(t);
        return strand == null ? 0 : strand.registerValue(r);
    }

    public int sees(int t, int v) {
        Strand strand = strandOf(t);
        if (strand == null || !isVariable(v)) {
            return 0;
        }
        return strand.hasWritten(v) ? strand.writtenValues[v] : memory.values[v];
    }

    public int log(int t) {
        Strand strand = strandOf(t);
        return strand == null ? 0 : strand.readSet + (strand.written << VARIABLES);
    }

    public int waiting(int v) {
        if (!isVariable(v)) {
            return 0;
        }
        int count = 0;
        for (int t = 0; t < THREADS; t++) {
            if (strands[t].waitsFor(1 << v)) {
                count++;
            }
        }
        return count;
    }

    public int discards(int t) {
        Strand strand = strandOf(t);
        return strand == null ? 0 : strand.discarded;
    }

    public int outcome() {
        boolean someParked = false;
        for (int t = 0; t < THREADS; t++) {
            if (strands[t].state == READY) {
                return 0;
            }
            if (strands[t].state == PARKED) {
                someParked = true;
            }
        }
        return someParked ? 2 : 1;
    }

    public int printed(int k) {
        return k == -1 ? paper.count : paper.latest(k);
    }

    private Strand strandOf(int t) {
        return t >= 0 && t < THREADS ? strands[t] : null;
    }

    private static boolean isRegister(int r) {
        return r >= 0 && r < REGISTERS;
    }

    private static boolean isVariable(int v) {
        return v >= 0 && v < VARIABLES;
    }

    private static boolean isWord(int kind, int a, int b) {
        switch (kind) {
            case ADD:
            case SUB:
                return isRegister(a) && isRegister(b);
            case READ:
                return isRegister(a) && isVariable(b);
            case WRITE:
                return isVariable(a) && isRegister(b);
            case SET:
            case PRINT:
            case IF:
            case WHILE:
            case THROW:
            case CATCH:
                return isRegister(a);
            default:
                return kind >= SET && kind <= CATCH;
        }
    }

    /** Does the word at the strand's place and answers what step answers. */
    private int doWord(Strand strand) {
        Program program = strand.program;
        int place = strand.place;
        int a = program.firstAt(place);
        int b = program.secondAt(place);
        switch (program.kindAt(place)) {
            case SET:
                return strand.assign(a, b);
            case ADD:
                return strand.assign(a, strand.registerValue(a) + strand.registerValue(b));
            case SUB:
                return strand.assign(a, strand.registerValue(a) - strand.registerValue(b));
            case READ:
                return doRead(strand, a, b);
            case WRITE:
                return strand.write(a, strand.registerValue(b));
            case PRINT:
                paper.write(strand.registerValue(a));
                return strand.goOnTo(place + 1);
            case ATOMIC:
                return strand.beginAttempt(memory.commitCount);
            case EITHER:
            case TRY:
                return strand.noteAndGoOn();
            case OR:
            case CATCH:
                return strand.endFirstPart();
            case ELSE:
                return strand.goOnTo(program.behindEnd(place));
            case IF:
            case WHILE:
                return strand.goOnTo(strand.registerValue(a) > 0 ? place + 1 : program.elsewhere(place));
            case RETRY:
                return doRetry(strand);
            case THROW:
                return doThrow(strand, strand.registerValue(a));
            case END:
                return doEnd(strand);
            default:
                return NO_STEP;
        }
    }

    private int doRead(Strand strand, int r, int v) {
        if (!isVariable(v)) {
            return NO_STEP;
        }
        if (strand.hasWritten(v)) {
            return strand.assign(r, strand.writtenValues[v]);
        }
        if (memory.hasChanged(1 << v, strand.attemptSince)) {
            return strand.discard();
        }
        strand.readSet |= 1 << v;
        return strand.assign(r, memory.values[v]);
    }

    private int doRetry(Strand strand) {
        int either = strand.latestFirstPart(EITHER);
        if (either != NONE) {
            strand.goBackTo(either);
            return strand.goOnTo(strand.program.secondPart(strand.place));
        }
        return hasStaleReads(strand) ? strand.discard() : strand.park();
    }

    private int doThrow(Strand strand, int x) {
        if (strand.isInAttempt() && strand.latestFirstPart(TRY) == NONE) {
            if (hasStaleReads(strand)) {
                return strand.discard();
            }
            strand.undoAttempt();
        }
        int handler = strand.latestFirstPart(TRY);
        if (handler == NONE) {
            strand.fail(x);
        } else {
            strand.handle(handler, x);
        }
        return WAS_THROWN;
    }

    private int doEnd(Strand strand) {
        int opener = strand.program.openerOf(strand.place);
        switch (strand.program.kindAt(opener)) {
            case WHILE:
                return strand.goOnTo(opener);
            case ATOMIC:
                return hasStaleReads(strand) ? strand.discard() : commit(strand);
            default:
                return strand.goOnTo(strand.place + 1);
        }
    }

    private boolean hasStaleReads(Strand strand) {
        return memory.hasChanged(strand.readSet, strand.attemptSince);
    }

    private int commit(Strand strand) {
        int changed = strand.written;
        if (changed != 0) {
            memory.countCommit();
            for (int v = 0; v < VARIABLES; v++) {
                if (strand.hasWritten(v)) {
                    memory.change(v, strand.writtenValues[v]);
                }
            }
        }
        strand.leaveAttempt();
        strand.goOnTo(strand.place + 1);
        wake(changed);
        return WAS_COMMITTED;
    }

    private void wake(int changed) {
        for (int t = 0; t < THREADS; t++) {
            if (strands[t].waitsFor(changed)) {
                strands[t].wakeUp();
            }
        }
    }

    /** The shared variables. Sets of variables are the sums of their 2^v. */
    private static final class Memory {
        private final int[] values = new int[VARIABLES];
        private final int[] versions = new int[VARIABLES];
        private int commitCount;

        private void countCommit() {
            commitCount++;
        }

        private void change(int v, int n) {
            if (isVariable(v)) {
                values[v] = n;
                versions[v] = commitCount;
            }
        }

        private boolean hasChanged(int set, int since) {
            for (int v = 0; v < VARIABLES; v++) {
                if ((set & 1 << v) != 0 && versions[v] > since) {
                    return true;
                }
            }
            return false;
        }
    }

    /** What was printed; only the values that can still be asked for are kept. */
    private static final class Paper {
        private final int[] ring = new int[PRINTS_KEPT];
        private int count;

        private void write(int n) {
            ring[Math.floorMod(count, PRINTS_KEPT)] = n;
            count++;
        }

        private int latest(int k) {
            if (k < 0 || k >= PRINTS_KEPT || k >= count) {
                return 0;
            }
            return ring[Math.floorMod(count - 1 - k, PRINTS_KEPT)];
        }
    }

    /** A list of words. Going through it finds what is wrong and which words belong together. */
    private static final class Program {
        private final int[] kinds = new int[MOST_WORDS];
        private final int[] firsts = new int[MOST_WORDS];
        private final int[] seconds = new int[MOST_WORDS];
        /** For an END, OR, ELSE or CATCH: the place of the word that opened what it belongs to. */
        private final int[] openers = new int[MOST_WORDS];
        /** For a word that opens: the place of its OR, ELSE or CATCH, or NONE. */
        private final int[] middles = new int[MOST_WORDS];
        /** For a word that opens: the place of its END. */
        private final int[] ends = new int[MOST_WORDS];
        /** While the list is gone through: the places of what is open, the innermost last. */
        private final int[] open = new int[MOST_OPEN];
        private int openCount;
        private int length;

        private static int at(int[] row, int place) {
            return place >= 0 && place < row.length ? row[place] : NONE;
        }

        private boolean isFull() {
            return length >= MOST_WORDS;
        }

        private void append(int kind, int a, int b) {
            if (!isFull()) {
                kinds[length] = kind;
                firsts[length] = a;
                seconds[length] = b;
                length++;
            }
        }

        private int kindAt(int place) {
            return at(kinds, place);
        }

        private int firstAt(int place) {
            return at(firsts, place);
        }

        private int secondAt(int place) {
            return at(seconds, place);
        }

        private int openerOf(int place) {
            return at(openers, place);
        }

        private int middleOf(int opener) {
            return at(middles, opener);
        }

        /** The place behind the END of what the OR, ELSE or CATCH at this place belongs to. */
        private int behindEnd(int place) {
            return at(ends, at(openers, place)) + 1;
        }

        /** The place behind the OR, ELSE or CATCH of what is opened at this place. */
        private int secondPart(int opener) {
            return at(middles, opener) + 1;
        }

        /** Where an IF or WHILE goes on when its register is not above 0. */
        private int elsewhere(int opener) {
            return middleOf(opener) == NONE ? at(ends, opener) + 1 : secondPart(opener);
        }

        /** Answers what check answers, and notes which words belong together on the way. */
        private int goThrough() {
            openCount = 0;
            for (int place = 0; place < length; place++) {
                if (isWrong(kindAt(place))) {
                    return place;
                }
                connect(place);
            }
            return openCount == 0 ? NONE : length;
        }

        private boolean isWrong(int kind) {
            switch (kind) {
                case END:
                    return openCount == 0 || lacksMiddle(EITHER) || lacksMiddle(TRY);
                case OR:
                    return !lacksMiddle(EITHER);
                case ELSE:
                    return !lacksMiddle(IF);
                case CATCH:
                    return !lacksMiddle(TRY);
                case READ:
                case WRITE:
                case RETRY:
                    return !isAtomicOpen();
                case EITHER:
                    return !isAtomicOpen() || openCount >= MOST_OPEN;
                case PRINT:
                    return isAtomicOpen();
                case ATOMIC:
                    return isAtomicOpen() || openCount >= MOST_OPEN;
                case IF:
                case WHILE:
                case TRY:
                    return openCount >= MOST_OPEN;
                default:
                    return false;
            }
        }

        private int innermost() {
            return at(open, openCount - 1);
        }

        /** Is the innermost of this kind, without an OR, ELSE or CATCH so far? */
        private boolean lacksMiddle(int kind) {
            int opener = innermost();
            return kindAt(opener) == kind && middleOf(opener) == NONE;
        }

        private boolean isAtomicOpen() {
            for (int i = 0; i < openCount; i++) {
                if (kindAt(at(open, i)) == ATOMIC) {
                    return true;
                }
            }
            return false;
        }

        private void connect(int place) {
            switch (kindAt(place)) {
                case ATOMIC:
                case EITHER:
                case IF:
                case WHILE:
                case TRY:
                    connectOpener(place);
                    break;
                case OR:
                case ELSE:
                case CATCH:
                    connectTo(middles, place);
                    break;
                case END:
                    connectTo(ends, place);
                    openCount--;
                    break;
                default:
                    break;
            }
        }

        private void connectOpener(int place) {
            if (openCount < MOST_OPEN) {
                middles[place] = NONE;
                open[openCount] = place;
                openCount++;
            }
        }

        private void connectTo(int[] row, int place) {
            int opener = innermost();
            if (opener >= 0 && opener < row.length) {
                row[opener] = place;
                openers[place] = opener;
            }
        }
    }

    /** What was noted when an ATOMIC, EITHER or TRY was done, to go back to it. */
    private static final class Mark {
        private final int[] registers = new int[REGISTERS];
        private final int[] writtenValues = new int[VARIABLES];
        private int written;
        private int place;
    }

    /** A thread. Outside of an attempt it has written nothing, and only when PARKED a read set. */
    private static final class Strand {
        private final Program program = new Program();
        private final int[] registers = new int[REGISTERS];
        private final int[] writtenValues = new int[VARIABLES];
        private final Mark[] marks = new Mark[MOST_OPEN];
        private int markCount;
        /** The mark of the attempt's ATOMIC, or NONE; those above it began in the attempt. */
        private int attemptMark = NONE;
        private int attemptSince;
        private int readSet;
        private int written;
        private int state = IDLE;
        private int place;
        private int discarded;

        private Strand() {
            for (int i = 0; i < MOST_OPEN; i++) {
                marks[i] = new Mark();
            }
        }

        private boolean isUnderWay() {
            return state == READY || state == PARKED;
        }

        private boolean isInAttempt() {
            return attemptMark != NONE;
        }

        private boolean hasWritten(int v) {
            return (written & 1 << v) != 0;
        }

        private boolean waitsFor(int set) {
            return state == PARKED && (readSet & set) != 0;
        }

        private int registerValue(int r) {
            return isRegister(r) ? registers[r] : 0;
        }

        private void setRegister(int r, int n) {
            if (isRegister(r)) {
                registers[r] = n;
            }
        }

        private void begin() {
            for (int r = 0; r < REGISTERS; r++) {
                registers[r] = 0;
            }
            discarded = 0;
            markCount = 0;
            state = READY;
            goOnTo(0);
        }

        private int goOnTo(int p) {
            place = p;
            if (p >= program.length) {
                state = DONE;
            }
            return WENT_ON;
        }

        private int assign(int r, int n) {
            setRegister(r, n);
            return goOnTo(place + 1);
        }

        private int write(int v, int n) {
            if (isVariable(v)) {
                writtenValues[v] = n;
                written |= 1 << v;
            }
            return goOnTo(place + 1);
        }

        private int beginAttempt(int commitCount) {
            attemptMark = markCount;
            attemptSince = commitCount;
            return noteAndGoOn();
        }

        private int noteAndGoOn() {
            if (markCount < MOST_OPEN) {
                Mark mark = marks[markCount];
                mark.place = place;
                mark.written = written;
                System.arraycopy(registers, 0, mark.registers, 0, REGISTERS);
                System.arraycopy(writtenValues, 0, mark.writtenValues, 0, VARIABLES);
                markCount++;
            }
            return goOnTo(place + 1);
        }

        private int endFirstPart() {
            if (markCount > 0) {
                markCount--;
            }
            return goOnTo(program.behindEnd(place));
        }

        /** The latest begun first part of this kind in the attempt (outside of one: at all). */
        private int latestFirstPart(int kind) {
            for (int i = markCount - 1; i > attemptMark; i--) {
                if (i < MOST_OPEN && program.kindAt(marks[i].place) == kind) {
                    return i;
                }
            }
            return NONE;
        }

        private void goBackTo(int i) {
            if (i >= 0 && i < MOST_OPEN) {
                Mark mark = marks[i];
                place = mark.place;
                written = mark.written;
                System.arraycopy(mark.registers, 0, registers, 0, REGISTERS);
                System.arraycopy(mark.writtenValues, 0, writtenValues, 0, VARIABLES);
                markCount = i;
            }
        }

        private void handle(int i, int x) {
            goBackTo(i);
            setRegister(program.firstAt(program.middleOf(place)), x);
            goOnTo(program.secondPart(place));
        }

        private void fail(int x) {
            setRegister(0, x);
            state = FAILED;
        }

        /** The attempt, if there is one, is over; the registers and the place stay. */
        private void leaveAttempt() {
            if (isInAttempt()) {
                markCount = attemptMark;
            }
            attemptMark = NONE;
            readSet = 0;
            written = 0;
        }

        /** The attempt is over and nothing of it is left. */
        private void undoAttempt() {
            goBackTo(attemptMark);
            leaveAttempt();
        }

        private int discard() {
            undoAttempt();
            discarded++;
            return WAS_DISCARDED;
        }

        private int park() {
            int waited = readSet;
            undoAttempt();
            readSet = waited;
            state = PARKED;
            return WAS_PARKED;
        }

        private void wakeUp() {
            readSet = 0;
            state = READY;
        }
    }
}
