/** A stack code, its checker and its machine; ../shared/DOC.md says what each call promises. */
public final class PathJudge {
    public static final int NUMBER = 1;
    public static final int RECORD = 2;
    public static final int UNSET = 4;
    public static final int UNDER = 1;
    public static final int OVER = 2;
    public static final int KIND = 4;
    public static final int LEAVES = 8;
    public static final int SAFE = 0;
    public static final int UNSAFE = 1;
    public static final int EMPTY = 2;
    public static final int IDLE = 0;
    public static final int RUNNING = 1;
    public static final int STOPPED = 2;
    public static final int EXHAUSTED = 3;

    private static final int OP_PUSH = 0;
    private static final int OP_NEW = 1;
    private static final int OP_POP = 2;
    private static final int OP_DUP = 3;
    private static final int OP_SWAP = 4;
    private static final int OP_ADD = 5;
    private static final int OP_READ = 6;
    private static final int OP_WRITE = 7;
    private static final int OP_LOAD = 8;
    private static final int OP_KEEP = 9;
    private static final int OP_JUMP = 10;
    private static final int OP_FORK = 11;
    private static final int OP_SAME = 12;
    private static final int OP_STOP = 13;

    private static final int MOST_INSTRUCTIONS = 16;
    private static final int MOST_HEIGHT = 4;
    private static final int MOST_RECORDS = 8;
    private static final int MOST_STEPS = 64;
    private static final int LOCALS = 2;

    /** kinds() and cell() name the locals by the places 4 and 5, cell() the records from 8 on. */
    private static final int LOCAL_PLACE = 4;
    private static final int RECORD_PLACE = 8;
    private static final int PLACES = LOCAL_PLACE + LOCALS;

    /** Stacks of 0 to 4 cells of three kinds: 1 + 3 + 9 + 27 + 81. */
    private static final int STACKS = 121;
    private static final int SITUATIONS = MOST_INSTRUCTIONS * STACKS * 9;
    private static final int KIND_SLOTS = MOST_INSTRUCTIONS * (MOST_HEIGHT + 1) * PLACES;

    private final int maxHeight;
    private final int pool;

    private final int[] ops = new int[MOST_INSTRUCTIONS];
    private final int[] args = new int[MOST_INSTRUCTIONS];
    private int length;

    /**
     * What the checker found at each position: made anew when an instruction is set, so that asking
     * is only looking. An empty program needs nothing here, since no position is looked at then.
     */
    private final int[] faultBits = new int[MOST_INSTRUCTIONS];
    private final int[] heightBits = new int[MOST_INSTRUCTIONS];
    private final int[] kindBits = new int[KIND_SLOTS];
    private final int[] leastSteps = new int[MOST_INSTRUCTIONS];
    private boolean faulty;

    /** The reached situations as numbers, in the order of their reaching, which is the order of their steps. */
    private final int[] queue = new int[SITUATIONS];
    private final int[] queueSteps = new int[SITUATIONS];
    private final boolean[] reached = new boolean[SITUATIONS];
    private int queued;

    /** The kinds of the one situation that the checker is following. */
    private final int[] kindStack = new int[MOST_HEIGHT];
    private final int[] kindLocals = new int[LOCALS];
    private int kindHeight;

    private final int[] stack = new int[MOST_HEIGHT];
    private final int[] locals = new int[LOCALS];
    private final int[] fields = new int[MOST_RECORDS];
    private int status;
    private int position;
    private int height;
    private int records;
    private int choices;
    private int forks;

    public PathJudge(int maxHeight, int pool) {
        this.maxHeight = clamp(maxHeight, 1, MOST_HEIGHT);
        this.pool = clamp(pool, 1, MOST_RECORDS);
    }

    public int emit(int op, int arg) {
        if (length >= MOST_INSTRUCTIONS) {
            return -1;
        }
        int refusal = refusalOf(op, arg);
        if (refusal != 0) {
            return refusal;
        }
        int p = length;
        length = length + 1;
        setInstruction(p, op, arg);
        return p;
    }

    public int patch(int p, int op, int arg) {
        if (!isPosition(p)) {
            return -1;
        }
        int refusal = refusalOf(op, arg);
        if (refusal != 0) {
            return refusal;
        }
        setInstruction(p, op, arg);
        return p;
    }

    public void clear() {
        length = 0;
        resetMachine(IDLE);
    }

    public int length() {
        return length;
    }

    public int verdict() {
        if (length == 0) {
            return EMPTY;
        }
        return faulty ? UNSAFE : SAFE;
    }

    public int faults(int p) {
        return isPosition(p) ? faultBits[p] : 0;
    }

    public int heights(int p) {
        return isPosition(p) ? heightBits[p] : 0;
    }

    public int kinds(int p, int h, int place) {
        if (!isPosition(p) || h < 0 || h > MOST_HEIGHT || place < 0 || place >= PLACES) {
            return 0;
        }
        int slot = kindSlot(p, h) + place;
        return kindBits[slot];
    }

    public int distance(int p) {
        return isPosition(p) ? leastSteps[p] : -1;
    }

    public boolean start(int choices) {
        if (verdict() != SAFE) {
            return false;
        }
        resetMachine(RUNNING);
        this.choices = choices;
        return true;
    }

    public int step(int n) {
        int limit = clamp(n, 0, MOST_STEPS);
        for (int done = 0; done < limit; done++) {
            if (!carryOut()) {
                return done;
            }
        }
        return limit;
    }

    public int status() {
        return status;
    }

    public int position() {
        return position;
    }

    public int height() {
        return height;
    }

    public int records() {
        return records;
    }

    public int cell(int i) {
        if (i >= 0 && i < height) {
            return stack[i];
        }
        if (i >= LOCAL_PLACE && i < LOCAL_PLACE + LOCALS) {
            return locals[i - LOCAL_PLACE];
        }
        if (i >= RECORD_PLACE && i - RECORD_PLACE < records) {
            return fields[i - RECORD_PLACE];
        }
        return 0;
    }

    // The program

    private static int clamp(int value, int least, int most) {
        if (value < least) {
            return least;
        }
        return value > most ? most : value;
    }

    private boolean isPosition(int p) {
        return p >= 0 && p < length;
    }

    private static int refusalOf(int op, int arg) {
        if (op < OP_PUSH || op > OP_STOP) {
            return -2;
        }
        boolean namesLocal = op == OP_LOAD || op == OP_KEEP;
        return namesLocal && (arg < 0 || arg >= LOCALS) ? -3 : 0;
    }

    private void setInstruction(int p, int op, int arg) {
        ops[p] = op;
        args[p] = arg;
        judge();
        resetMachine(IDLE);
    }

    // The checker

    private void judge() {
        forgetJudgement();
        kindHeight = 0;
        kindLocals[0] = UNSET;
        kindLocals[1] = UNSET;
        reach(0, 0, 0);
        for (int next = 0; next < queued && next < SITUATIONS; next++) {
            int p = takeSituation(queue[next]);
            noteSituation(p, queueSteps[next]);
            follow(p, queueSteps[next] + 1);
        }
    }

    private void forgetJudgement() {
        for (int i = 0; i < queued; i++) {
            reached[queue[i]] = false;
        }
        queued = 0;
        faulty = false;
        for (int p = 0; p < MOST_INSTRUCTIONS; p++) {
            faultBits[p] = 0;
            heightBits[p] = 0;
            leastSteps[p] = -1;
        }
        for (int i = 0; i < KIND_SLOTS; i++) {
            kindBits[i] = 0;
        }
    }

    /** The rules 1 to 5 of the document, in their order, for the situation at hand at p. */
    private void follow(int p, int nextSteps) {
        int op = ops[p];
        if (kindHeight < cellsNeeded(op)) {
            noteFault(p, UNDER);
            return;
        }
        if (needsRoom(op) && kindHeight >= maxHeight) {
            noteFault(p, OVER);
            return;
        }
        if (!kindsFit(op)) {
            noteFault(p, KIND);
        }
        changeKinds(op, args[p]);
        if (op == OP_JUMP || op == OP_FORK) {
            reach(p, args[p], nextSteps);
        }
        if (op != OP_JUMP && op != OP_STOP) {
            reach(p, p + 1, nextSteps);
        }
    }

    private void noteFault(int p, int fault) {
        faultBits[p] |= fault;
        faulty = true;
    }

    /** Only a new situation is queued: each stands once in the queue, so it never overflows. */
    private void reach(int from, int q, int steps) {
        if (!isPosition(q)) {
            noteFault(from, LEAVES);
            return;
        }
        int situation = situationNumber(q);
        if (reached[situation] || queued >= SITUATIONS) {
            return;
        }
        reached[situation] = true;
        queue[queued] = situation;
        queueSteps[queued] = steps;
        queued = queued + 1;
    }

    private static int cellsNeeded(int op) {
        switch (op) {
            case OP_POP:
            case OP_DUP:
            case OP_READ:
            case OP_KEEP:
            case OP_STOP:
                return 1;
            case OP_SWAP:
            case OP_ADD:
            case OP_WRITE:
            case OP_SAME:
                return 2;
            default:
                return 0;
        }
    }

    private static boolean needsRoom(int op) {
        return op == OP_PUSH || op == OP_NEW || op == OP_DUP || op == OP_LOAD;
    }

    private boolean kindsFit(int op) {
        int top = kindBelowTop(0);
        int below = kindBelowTop(1);
        switch (op) {
            case OP_ADD:
                return top == NUMBER && below == NUMBER;
            case OP_READ:
                return top == RECORD;
            case OP_WRITE:
                return top == NUMBER && below == RECORD;
            case OP_SAME:
                return top == RECORD && below == RECORD;
            case OP_STOP:
                return top == NUMBER;
            default:
                return true;
        }
    }

    /** Only the locals 0 and 1 are ever named; the mask lets that be seen where the index is used. */
    private void changeKinds(int op, int arg) {
        int top = kindBelowTop(0);
        int below = kindBelowTop(1);
        switch (op) {
            case OP_PUSH:
                pushKind(NUMBER);
                break;
            case OP_NEW:
                pushKind(RECORD);
                break;
            case OP_POP:
                dropKinds(1);
                break;
            case OP_DUP:
                pushKind(top);
                break;
            case OP_SWAP:
                dropKinds(2);
                pushKind(top);
                pushKind(below);
                break;
            case OP_ADD:
            case OP_SAME:
                dropKinds(2);
                pushKind(NUMBER);
                break;
            case OP_READ:
                dropKinds(1);
                pushKind(NUMBER);
                break;
            case OP_WRITE:
                dropKinds(2);
                break;
            case OP_LOAD:
                pushKind(kindLocals[arg & 1]);
                break;
            case OP_KEEP:
                dropKinds(1);
                kindLocals[arg & 1] = top;
                break;
            default:
                break;
        }
    }

    /** Asked for any operation, so the cell may be missing: then 0, which is no kind. */
    private int kindBelowTop(int depth) {
        int i = kindHeight - 1 - depth;
        return i >= 0 && i < MOST_HEIGHT ? kindStack[i] : 0;
    }

    private void dropKinds(int count) {
        kindHeight = kindHeight > count ? kindHeight - count : 0;
    }

    private void pushKind(int kind) {
        if (kindHeight < MOST_HEIGHT) {
            kindStack[kindHeight] = kind;
            kindHeight = kindHeight + 1;
        }
    }

    /** Situations come in the order of their steps, so the first one at p has the least. */
    private void noteSituation(int p, int steps) {
        if (leastSteps[p] < 0) {
            leastSteps[p] = steps;
        }
        heightBits[p] |= 1 << kindHeight;
        int slot = kindSlot(p, kindHeight);
        for (int i = 0; i < kindHeight && i < MOST_HEIGHT; i++) {
            kindBits[slot + i] |= kindStack[i];
        }
        for (int i = 0; i < LOCALS; i++) {
            kindBits[slot + LOCAL_PLACE + i] |= kindLocals[i];
        }
    }

    private static int kindSlot(int p, int h) {
        return (p * (MOST_HEIGHT + 1) + h) * PLACES;
    }

    /**
     * The kinds 1, 2 and 4 are the digits 0, 1 and 2 of the locals, but 1, 2 and 3 of the stack:
     * without a digit 0, stacks of different heights get different numbers, all below STACKS.
     */
    private int situationNumber(int p) {
        int stackNumber = 0;
        for (int i = kindHeight - 1; i >= 0; i--) {
            stackNumber = stackNumber * 3 + 1 + (kindStack[i] >> 1);
        }
        int localsNumber = (kindLocals[0] >> 1) * 3 + (kindLocals[1] >> 1);
        return (p * STACKS + stackNumber) * 9 + localsNumber;
    }

    /** Undoes situationNumber: the kinds become those at hand, and the position is answered. */
    private int takeSituation(int situation) {
        int localsNumber = situation % 9;
        kindLocals[0] = 1 << (localsNumber / 3);
        kindLocals[1] = 1 << (localsNumber % 3);
        int stackNumber = situation / 9 % STACKS;
        kindHeight = 0;
        for (int i = 0; i < MOST_HEIGHT && stackNumber > 0; i++) {
            pushKind(1 << ((stackNumber - 1) % 3));
            stackNumber = (stackNumber - 1) / 3;
        }
        return situation / 9 / STACKS;
    }

    // The machine

    private void resetMachine(int newStatus) {
        status = newStatus;
        position = 0;
        height = 0;
        records = 0;
        forks = 0;
        locals[0] = 0;
        locals[1] = 0;
    }

    /** False, with the instruction left undone, when the machine is not or no longer RUNNING. */
    private boolean carryOut() {
        if (status != RUNNING || !isPosition(position)) {
            return false;
        }
        int op = ops[position];
        int arg = args[position];
        if (op == OP_NEW && records >= pool) {
            status = EXHAUSTED;
            return false;
        }
        if (op == OP_STOP) {
            status = STOPPED;
            return true;
        }
        changeCells(op, arg);
        boolean jumps = op == OP_JUMP || (op == OP_FORK && takeChoice());
        position = jumps ? arg : position + 1;
        return true;
    }

    private boolean takeChoice() {
        boolean chosen = ((choices >>> forks) & 1) == 1;
        forks = (forks + 1) & 31;
        return chosen;
    }

    /** The mask is there for the same reason as in changeKinds. */
    private void changeCells(int op, int arg) {
        int top = cellBelowTop(0);
        int below = cellBelowTop(1);
        switch (op) {
            case OP_PUSH:
                pushCell(arg);
                break;
            case OP_NEW:
                pushCell(records);
                makeRecord();
                break;
            case OP_POP:
                dropCells(1);
                break;
            case OP_DUP:
                pushCell(top);
                break;
            case OP_SWAP:
                dropCells(2);
                pushCell(top);
                pushCell(below);
                break;
            case OP_ADD:
                dropCells(2);
                pushCell(top + below);
                break;
            case OP_READ:
                dropCells(1);
                pushField(top);
                break;
            case OP_WRITE:
                dropCells(2);
                writeField(below, top);
                break;
            case OP_LOAD:
                pushCell(locals[arg & 1]);
                break;
            case OP_KEEP:
                dropCells(1);
                locals[arg & 1] = top;
                break;
            case OP_SAME:
                dropCells(2);
                pushCell(top == below ? 1 : 0);
                break;
            default:
                break;
        }
    }

    /** Asked for any operation, so the cell may be missing: then 0, which no operation uses. */
    private int cellBelowTop(int depth) {
        int i = height - 1 - depth;
        return i >= 0 && i < MOST_HEIGHT ? stack[i] : 0;
    }

    private void dropCells(int count) {
        height = height > count ? height - count : 0;
    }

    private void pushCell(int value) {
        if (height < MOST_HEIGHT) {
            stack[height] = value;
            height = height + 1;
        }
    }

    /** Always so in a program that the checker lets start; looked at so that no index can fail. */
    private boolean isRecord(int r) {
        return r >= 0 && r < records && r < MOST_RECORDS;
    }

    private void makeRecord() {
        if (records < MOST_RECORDS) {
            fields[records] = 0;
            records = records + 1;
        }
    }

    private void pushField(int r) {
        int value = isRecord(r) ? fields[r] : 0;
        pushCell(value);
    }

    private void writeField(int r, int value) {
        if (isRecord(r)) {
            fields[r] = value;
        }
    }
}
