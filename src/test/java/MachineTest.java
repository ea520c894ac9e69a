/** Promises 11 to 17: the machine. */
public final class MachineTest {
    private static final int[] CHOICES = {0, 1, 2, -2, -1, 0x55555555, 0x12345678, 0x7fffffff, 0x80000000, 0x80000001,
        0x00010000, 0xffff0000};

    private MachineTest() {
    }

    public static void main(String[] args) {
        Document.open("## Promise 11: start `boolean start(int choices)`:", "## Promise 12");
        Document.says("Starts the machine afresh, whatever it was doing.", MachineTest::startsAfresh);
        Document.says("Refused with false, changing nothing, when verdict() is not SAFE.", MachineTest::startRefuses);
        Document.says("Otherwise true: RUNNING, position 0, height 0, both locals 0, no records,",
                MachineTest::startState);
        Document.says("no forks carried out;", MachineTest::startForks);
        Document.says("choices says how the forks will go.", MachineTest::startChoices);

        Document.open("## Promise 12: step `int step(int n)`:", "## Promise 13");
        Document.says("Carries out up to n instructions", MachineTest::stepsUpTo);
        Document.says("(n below 0 counts as 0,", MachineTest::stepsBelowNone);
        Document.says("above 64 as 64),", MachineTest::stepsAboveMost);
        Document.says("and answers how many were carried out.", MachineTest::stepAnswers);
        Document.says("Nothing is carried out unless the machine is RUNNING.", MachineTest::stepNotRunning);
        Document.says("An instruction is carried out as the table says;", MachineTest::operations);
        Document.says("ADD wraps as ints do.", MachineTest::addWraps);
        Document.says("FORK: the k-th FORK carried out since the start (counted from 0) goes on at t when bit (k mod"
                + " 32) of choices is 1, else at the next position.", MachineTest::forks);
        Document.says("SAME pushes 1 when the two record numbers are equal, else 0.", MachineTest::same);
        Document.says("STOP counts as carried out;", MachineTest::stopCounts);
        Document.says("the machine is then STOPPED, its position stays at the STOP, its cells stay.",
                MachineTest::stopStays);
        Document.says("NEW, when as many records as the pool has were made already, is not carried out (and not"
                + " counted):", MachineTest::newAtTheEnd);
        Document.says("the machine is then EXHAUSTED, its position stays at the NEW, nothing else changes.",
                MachineTest::newStays);

        Document.open("## Promise 13: status `int status()`:", "## Promise 14");
        Document.says("IDLE (after a reset, and at first), RUNNING, STOPPED or EXHAUSTED.", MachineTest::status);

        Document.open("## Promise 14: position `int position()`:", "## Promise 15");
        Document.says("The position of the machine;", MachineTest::position);
        Document.says("0 when it is IDLE.", MachineTest::positionIdle);

        Document.open("## Promise 15: height `int height()`:", "## Promise 16");
        Document.says("The height of the machine's stack;", MachineTest::height);
        Document.says("0 when it is IDLE.", MachineTest::heightIdle);

        Document.open("## Promise 16: records `int records()`:", "## Promise 17");
        Document.says("How many records were made since the start;", MachineTest::records);
        Document.says("0 when the machine is IDLE.", MachineTest::recordsIdle);

        Document.open("## Promise 17: cell `int cell(int i)`:", "## Not promised");
        Document.says("What the machine holds: i from 0 to height() - 1 is a stack cell (0 the bottom);",
                MachineTest::cellOfStack);
        Document.says("4 is local 0, 5 is local 1;", MachineTest::cellOfLocals);
        Document.says("8 + r, for r from 0 to records() - 1, is the field of record r.", MachineTest::cellOfRecords);
        Document.says("0 for any other i,", MachineTest::cellElsewhere);
        Document.says("and whenever the machine is IDLE.", MachineTest::cellIdle);
        Document.end();
    }

    private static void isFresh(String when, PathJudge judge) {
        Code.isAt(when, judge, PathJudge.RUNNING, 0, 0, 0);
        for (int i = -1; i < 17; i++) {
            Due.is(when + ": cell(" + i + ")", 0, judge.cell(i));
        }
    }

    private static void startsAfresh() {
        for (PathJudge judge : Code.busy()) {
            int before = judge.status();
            Due.is("start(0) from " + before, true, judge.start(0));
            isFresh("from " + before, judge);
            Due.is("it runs from " + before, 2, judge.step(2));
            Code.isStack("it runs from " + before, judge, 0, 0);
        }
        PathJudge idle = Code.program(4, 8, "PUSH 5, STOP");
        Due.is("start(0) from IDLE", true, idle.start(0));
        isFresh("from IDLE", idle);
        Due.is("start(0) at the start", true, idle.start(0));
        isFresh("from the start", idle);
    }

    private static void startRefuses() {
        for (int choices : CHOICES) {
            PathJudge empty = new PathJudge(4, 8);
            Due.is("EMPTY: start(" + choices + ")", false, empty.start(choices));
            Code.isIdle("EMPTY", empty);
            Due.is("EMPTY: step(1)", 0, empty.step(1));
        }
        for (String text : new String[] {"POP, JUMP 0", "PUSH 1, JUMP 0", "NEW, STOP", "PUSH 1"}) {
            PathJudge unsafe = Code.program(1, 8, text);
            Due.is("UNSAFE: start(0) of " + text, false, unsafe.start(0));
            Code.isIdle("UNSAFE", unsafe);
            Due.is("UNSAFE: step(64) of " + text, 0, unsafe.step(64));
            Due.is("UNSAFE: verdict() of " + text, PathJudge.UNSAFE, unsafe.verdict());
        }
        PathJudge cleared = Code.run(1, "PUSH 5, STOP");
        cleared.clear();
        Due.is("cleared: start(0)", false, cleared.start(0));
        Code.isIdle("cleared", cleared);
        PathJudge broken = Code.run(1, "PUSH 5, STOP");
        broken.patch(0, Code.NEW, 0);
        Due.is("broken: start(0)", false, broken.start(0));
        Code.isIdle("broken", broken);
        broken.patch(0, Code.PUSH, 6);
        Due.is("mended: start(0)", true, broken.start(0));
    }

    private static void startState() {
        PathJudge judge = Code.program(4, 8, "NEW, PUSH 7, WRITE, PUSH 6, KEEP 0, PUSH 8, KEEP 1, PUSH 5, STOP");
        for (int run = 0; run < 3; run++) {
            Due.is("start(" + run + ")", true, judge.start(run));
            isFresh("run " + run, judge);
            Due.is("step(64)", 9, judge.step(64));
            Code.isAt("run " + run, judge, PathJudge.STOPPED, 8, 1, 1);
            Due.is("local 0", 6, judge.cell(4));
            Due.is("local 1", 8, judge.cell(5));
            Due.is("field", 7, judge.cell(8));
        }
        PathJudge locals = Code.started(1, "FORK 3, LOAD 0, JUMP 5, PUSH 9, KEEP 0, LOAD 0, PUSH 1, STOP");
        locals.step(64);
        Due.is("a local is set in this run", 9, locals.cell(4));
        locals.start(0);
        locals.step(64);
        Due.is("a local is 0 in the next", 0, locals.cell(0));
    }

    /** The first fork of choices 1 goes, the next ones do not, whatever the run before came to. */
    private static void startForks() {
        PathJudge judge = Code.program(4, 8, "FORK 0, JUMP 0");
        for (int steps = 1; steps <= 64; steps++) {
            judge.start(1);
            judge.step(1);
            Due.is("the first fork of run " + steps, 0, judge.position());
            judge.step(1);
            Due.is("the second fork of run " + steps, 1, judge.position());
            judge.step(steps);
        }
    }

    private static void startChoices() {
        PathJudge judge = Code.program(4, 8, "FORK 0, JUMP 0");
        for (int choices : CHOICES) {
            Due.is("start(" + choices + ")", true, judge.start(choices));
            judge.step(1);
            Due.is("the first fork of " + choices, choices % 2 == 0 ? 1 : 0, judge.position());
        }
        for (int bit = 0; bit < 32; bit++) {
            judge.start(1 << bit);
            judge.step(2 * bit);
            Due.is("before fork " + bit, 0, judge.position());
            judge.step(1);
            Due.is("fork " + bit + " of 1 << " + bit, 0, judge.position());
            judge.start(~(1 << bit));
            judge.step(bit);
            Due.is("before fork " + bit, 0, judge.position());
            judge.step(1);
            Due.is("fork " + bit + " of all but 1 << " + bit, 1, judge.position());
        }
    }

    /** After k steps the position is 1 + (k - 1) % 3, and the cell has counted the rounds. */
    private static PathJudge counter() {
        return Code.started(0, "PUSH 0, PUSH 1, ADD, JUMP 1");
    }

    private static void isCounted(String when, PathJudge judge, int total) {
        Due.is(when + ": position()", total == 0 ? 0 : 1 + (total - 1) % 3, judge.position());
        Due.is(when + ": cell(0)", total < 3 ? 0 : total / 3, judge.cell(0));
        Due.is(when + ": status()", PathJudge.RUNNING, judge.status());
    }

    private static void stepsUpTo() {
        for (int n = 0; n <= 64; n++) {
            PathJudge judge = counter();
            judge.step(n);
            isCounted("step(" + n + ")", judge, n);
        }
        PathJudge twice = counter();
        twice.step(5);
        twice.step(7);
        isCounted("step(5) and step(7)", twice, 12);
    }

    private static void stepsBelowNone() {
        PathJudge judge = counter();
        for (int n : new int[] {0, -1, -2, -64, -65, -256, 1 - Code.MAX, Code.MIN + 1, Code.MIN}) {
            Due.is("step(" + n + ")", 0, judge.step(n));
            isCounted("step(" + n + ")", judge, 0);
        }
        PathJudge stop = Code.run(1, "PUSH 1, STOP");
        Due.is("step(-1) before STOP", 0, stop.step(-1));
        Due.is("step(0) before STOP", 0, stop.step(0));
        Due.is("status()", PathJudge.RUNNING, stop.status());
        PathJudge full = Code.program(4, 1, "NEW, POP, JUMP 0");
        full.start(0);
        full.step(3);
        Due.is("step(-1) before a NEW too many", 0, full.step(-1));
        Due.is("step(0) before a NEW too many", 0, full.step(0));
        Due.is("status()", PathJudge.RUNNING, full.status());
    }

    private static void stepsAboveMost() {
        int total = 0;
        PathJudge judge = counter();
        for (int n : new int[] {63, 64, 65, 66, 127, 128, 129, 256, 320, 65536, 1 << 30, Code.MAX - 1, Code.MAX}) {
            total += Math.min(n, 64);
            Due.is("step(" + n + ")", Math.min(n, 64), judge.step(n));
            isCounted("step(" + n + ")", judge, total);
        }
    }

    private static void stepAnswers() {
        for (int n = 0; n <= 64; n++) {
            Due.is("step(" + n + ") of a loop", n, counter().step(n));
        }
        for (int n = 0; n < 20; n++) {
            PathJudge line = Code.started(0, "PUSH 0, PUSH 0" + ", SWAP".repeat(13) + ", STOP");
            Due.is("step(" + n + ") of 16 instructions", Math.min(n, 16), line.step(n));
            Due.is("the rest of 16 instructions", 16 - Math.min(n, 16), line.step(64));
        }
    }

    private static void stepNotRunning() {
        PathJudge idle = Code.program(4, 8, "PUSH 1, STOP");
        Due.is("IDLE: step(1)", 0, idle.step(1));
        Due.is("IDLE: step(64)", 0, idle.step(64));
        Code.isIdle("IDLE", idle);
        PathJudge stopped = Code.run(64, "PUSH 1, STOP, STOP");
        Due.is("STOPPED: step(1)", 0, stopped.step(1));
        Due.is("STOPPED: step(64)", 0, stopped.step(64));
        Code.isAt("STOPPED", stopped, PathJudge.STOPPED, 1, 1, 0);
        PathJudge exhausted = Code.run(64, "NEW, POP, JUMP 0");
        Due.is("EXHAUSTED: step(1)", 0, exhausted.step(1));
        Due.is("EXHAUSTED: step(64)", 0, exhausted.step(64));
        Code.isAt("EXHAUSTED", exhausted, PathJudge.EXHAUSTED, 0, 0, 8);
        PathJudge reset = Code.run(1, "PUSH 1, PUSH 2, STOP");
        reset.patch(1, Code.PUSH, 2);
        Due.is("after a reset: step(64)", 0, reset.step(64));
        Code.isIdle("after a reset", reset);
    }

    /** Every operation but the FORK in one run; TermsTest has each by itself. */
    private static void operations() {
        PathJudge judge = Code.started(0, "PUSH -3, PUSH 10, SWAP, DUP, ADD, KEEP 1, NEW, DUP, LOAD 1, WRITE, DUP,"
                + " SAME, POP, JUMP 14, LOAD 1, STOP");
        int[][] stacks = {{-3}, {-3, 10}, {10, -3}, {10, -3, -3}, {10, -6}, {10}, {10, 0}, {10, 0, 0},
            {10, 0, 0, -6}, {10, 0}, {10, 0, 0}, {10, 1}, {10}, {10}, {10, -6}, {10, -6}};
        for (int i = 0; i < stacks.length; i++) {
            Due.is("position()", i, judge.position());
            Due.is("step(1)", 1, judge.step(1));
            Code.isStack("after " + i, judge, stacks[i]);
        }
        Code.isAt("at the end", judge, PathJudge.STOPPED, 15, 2, 1);
        Due.is("local 1", -6, judge.cell(5));
        Due.is("field", -6, judge.cell(8));
    }

    private static void addWraps() {
        int[][] pairs = {{Code.MAX, 1}, {1, Code.MAX}, {Code.MIN, -1}, {-1, Code.MIN}, {Code.MAX, Code.MAX},
            {Code.MIN, Code.MIN}, {Code.MAX, Code.MIN}, {Code.MAX, 0}, {Code.MIN, 0}, {1 << 30, 1 << 30}};
        for (int[] pair : pairs) {
            PathJudge judge = Code.run(3, "PUSH " + pair[0] + ", PUSH " + pair[1] + ", ADD, STOP");
            Code.isStack(pair[0] + " + " + pair[1], judge, pair[0] + pair[1]);
        }
        Code.isStack("MAX + 1", Code.run(3, "PUSH " + Code.MAX + ", PUSH 1, ADD, STOP"), Code.MIN);
        Code.isStack("MIN - 1", Code.run(3, "PUSH " + Code.MIN + ", PUSH -1, ADD, STOP"), Code.MAX);
    }

    private static void forks() {
        for (int choices : CHOICES) {
            PathJudge judge = Code.started(choices, "PUSH 0, FORK 3, JUMP 1, JUMP 1");
            judge.step(1);
            for (int k = 0; k < 100; k++) {
                judge.step(1);
                boolean goes = (choices >>> (k % 32)) % 2 != 0;
                Due.is("fork " + k + " of " + choices, goes ? 3 : 2, judge.position());
                judge.step(1);
            }
        }
        otherInstructionsAreNoForks();
        manyForks();
    }

    /** A JUMP is no fork, nor is anything else: only the second FORK goes. */
    private static void otherInstructionsAreNoForks() {
        PathJudge judge = Code.started(2, "PUSH 0, JUMP 2, DUP, POP, FORK 7, JUMP 6, FORK 8, STOP, STOP");
        judge.step(5);
        Due.is("the first FORK", 5, judge.position());
        judge.step(2);
        Due.is("the second FORK", 8, judge.position());
    }

    /** As many forks as an object's calls allow. */
    private static void manyForks() {
        int choices = 0x8421f0a7;
        PathJudge judge = Code.started(choices, "FORK 0, JUMP 0");
        int position = 0;
        int k = 0;
        for (int call = 0; call < 250; call++) {
            Due.is("step(64)", 64, judge.step(64));
            for (int i = 0; i < 64; i++) {
                if (position == 1) {
                    position = 0;
                } else {
                    position = (choices >>> (k % 32)) % 2 != 0 ? 0 : 1;
                    k++;
                }
            }
            Due.is("after " + k + " forks", position, judge.position());
        }
    }

    private static void same() {
        Code.isStack("0 and 0", Code.run(3, "NEW, DUP, SAME, STOP"), 1);
        Code.isStack("0 and 1", Code.run(3, "NEW, NEW, SAME, STOP"), 0);
        Code.isStack("1 and 0", Code.run(4, "NEW, NEW, SWAP, SAME, STOP"), 0);
        Code.isStack("1 and 1", Code.run(5, "NEW, POP, NEW, DUP, SAME, STOP"), 1);
        PathJudge last = Code.started(0x7f, "NEW, KEEP 0, FORK 0, LOAD 0, LOAD 0, SAME, STOP");
        last.step(8 * 3 + 3);
        Code.isStack("7 and 7", last, 1);
        PathJudge next = Code.started(0x3f, "NEW, KEEP 0, FORK 0, NEW, LOAD 0, SAME, STOP");
        next.step(7 * 3 + 3);
        Code.isStack("7 and 6", next, 0);
        Code.isStack("what is below stays", Code.run(5, "PUSH 6, PUSH 7, NEW, DUP, SAME, STOP"), 6, 7, 1);
    }

    private static void stopCounts() {
        Due.is("with those before it", 3, Code.started(0, "NEW, PUSH 4, STOP").step(64));
        PathJudge judge = Code.run(2, "NEW, PUSH 4, STOP");
        Due.is("status()", PathJudge.RUNNING, judge.status());
        Due.is("alone", 1, judge.step(1));
        Due.is("status()", PathJudge.STOPPED, judge.status());
        Due.is("only once", 0, judge.step(1));
        PathJudge just = Code.started(0, "PUSH 1, STOP");
        Due.is("as the last of n", 2, just.step(2));
        Due.is("status()", PathJudge.STOPPED, just.status());
    }

    private static void stopStays() {
        PathJudge judge = Code.run(64, "NEW, KEEP 1, PUSH 8, KEEP 0, LOAD 1, PUSH 6, WRITE, LOAD 1, PUSH 7, STOP, POP,"
                + " JUMP 0");
        for (int i = 0; i < 2; i++) {
            Code.isAt("STOP", judge, PathJudge.STOPPED, 9, 2, 1);
            Code.isStack("STOP", judge, 0, 7);
            Due.is("local 0", 8, judge.cell(4));
            Due.is("local 1", 0, judge.cell(5));
            Due.is("field", 6, judge.cell(8));
            Due.is("step(64)", 0, judge.step(64));
        }
        PathJudge last = Code.run(64, "PUSH 3, JUMP 15" + ", POP".repeat(13) + ", STOP");
        Code.isAt("at the last of 16", last, PathJudge.STOPPED, 15, 1, 0);
        PathJudge four = Code.run(64, "PUSH 1, PUSH 2, PUSH 3, PUSH 4, STOP");
        Code.isStack("a full stack", four, 1, 2, 3, 4);
    }

    private static void newAtTheEnd() {
        for (int pool = 1; pool <= 8; pool++) {
            PathJudge judge = Code.program(4, pool, "NEW, POP, JUMP 0");
            judge.start(0);
            Due.is("as many as the pool of " + pool + " has", 3 * pool, judge.step(3 * pool));
            Due.is("status() with a pool of " + pool, PathJudge.RUNNING, judge.status());
            Due.is("one more", 0, judge.step(1));
            Due.is("status() with a pool of " + pool, PathJudge.EXHAUSTED, judge.status());
            Due.is("start(0)", true, judge.start(0));
            Due.is("not counted", 3 * pool, judge.step(64));
            Due.is("records()", pool, judge.records());
        }
        PathJudge exact = Code.program(4, 2, "NEW, NEW, SAME, STOP");
        exact.start(0);
        Due.is("no NEW too many", 4, exact.step(64));
        Due.is("no NEW too many", PathJudge.STOPPED, exact.status());
        PathJudge first = Code.program(4, 1, "NEW, NEW, SAME, STOP");
        first.start(0);
        Due.is("the second NEW of a pool of 1", 1, first.step(64));
        Code.isStack("the second NEW of a pool of 1", first, 0);
    }

    private static void newStays() {
        PathJudge judge = Code.program(4, 2, "NEW, DUP, KEEP 0, PUSH 6, WRITE, PUSH 9, KEEP 1, PUSH 5, NEW, POP,"
                + " JUMP 8");
        judge.start(0);
        Due.is("up to the third NEW", 11, judge.step(11));
        Code.isAt("before", judge, PathJudge.RUNNING, 8, 1, 2);
        for (int i = 0; i < 2; i++) {
            Due.is("step(64)", 0, judge.step(64));
            Code.isAt("EXHAUSTED", judge, PathJudge.EXHAUSTED, 8, 1, 2);
            Code.isStack("EXHAUSTED", judge, 5);
            Due.is("local 0", 0, judge.cell(4));
            Due.is("local 1", 9, judge.cell(5));
            Due.is("field 0", 6, judge.cell(8));
            Due.is("field 1", 0, judge.cell(9));
        }
        PathJudge first = Code.run(64, "NEW, PUSH 7, WRITE, JUMP 0");
        Code.isAt("at position 0, with eight records", first, PathJudge.EXHAUSTED, 0, 0, 8);
        for (int r = 0; r < 8; r++) {
            Due.is("field " + r, 7, first.cell(8 + r));
        }
    }

    private static void status() {
        PathJudge judge = new PathJudge(4, 1);
        Due.is("at first", PathJudge.IDLE, judge.status());
        Code.append(judge, "FORK 2, NEW, NEW, POP, PUSH 0, STOP");
        Due.is("after emit", PathJudge.IDLE, judge.status());
        judge.start(1);
        Due.is("after start", PathJudge.RUNNING, judge.status());
        judge.step(4);
        Due.is("before STOP", PathJudge.RUNNING, judge.status());
        judge.step(1);
        Due.is("after STOP", PathJudge.STOPPED, judge.status());
        judge.start(0);
        Due.is("after another start", PathJudge.RUNNING, judge.status());
        judge.step(2);
        Due.is("before a NEW too many", PathJudge.RUNNING, judge.status());
        judge.step(1);
        Due.is("after a NEW too many", PathJudge.EXHAUSTED, judge.status());
        judge.patch(5, Code.STOP, 0);
        Due.is("after patch", PathJudge.IDLE, judge.status());
        judge.start(0);
        judge.emit(Code.STOP, 0);
        Due.is("after emit", PathJudge.IDLE, judge.status());
        judge.start(0);
        judge.clear();
        Due.is("after clear", PathJudge.IDLE, judge.status());
    }

    private static void position() {
        PathJudge judge = Code.started(0, "PUSH 7, PUSH 1" + ", SWAP".repeat(13) + ", STOP");
        for (int p = 0; p < 16; p++) {
            Due.is("position() when RUNNING", p, judge.position());
            judge.step(1);
        }
        Due.is("position() when STOPPED", 15, judge.position());
        PathJudge exhausted = Code.run(64, "JUMP 2, POP, NEW, POP, JUMP 2");
        Due.is("position() when EXHAUSTED", 2, exhausted.position());
        Due.is("position() after start", 0, Code.started(0, "JUMP 1, JUMP 0").position());
    }

    private static void positionIdle() {
        Due.is("new", 0, new PathJudge(4, 8).position());
        for (PathJudge judge : Code.busy()) {
            Due.holds("not 0 before", judge.position() != 0);
            judge.patch(0, Code.NEW, 0);
            Due.is("after a reset", 0, judge.position());
        }
    }

    private static void height() {
        PathJudge judge = Code.started(0, "PUSH 1, PUSH 2, PUSH 3, PUSH 4, POP, POP, POP, POP, JUMP 0");
        int[] want = {0, 1, 2, 3, 4, 3, 2, 1, 0, 0};
        for (int i = 0; i < want.length; i++) {
            Due.is("height() after " + i, want[i], judge.height());
            judge.step(1);
        }
        Due.is("STOPPED", 1, Code.run(64, "PUSH 1, STOP").height());
        Due.is("EXHAUSTED", 1, Code.run(64, "PUSH 1, NEW, POP, JUMP 1").height());
    }

    private static void heightIdle() {
        Due.is("new", 0, new PathJudge(4, 8).height());
        for (PathJudge judge : Code.busy()) {
            Due.holds("not 0 before", judge.height() != 0);
            judge.patch(0, Code.NEW, 0);
            Due.is("after a reset", 0, judge.height());
        }
    }

    private static void records() {
        PathJudge judge = Code.started(0, "NEW, POP, JUMP 0");
        for (int made = 0; made <= 8; made++) {
            Due.is("records()", made, judge.records());
            judge.step(3);
        }
        Due.is("when EXHAUSTED", 8, judge.records());
        judge.start(0);
        Due.is("since the start", 0, judge.records());
        judge.step(4);
        Due.is("since the start", 2, judge.records());
        PathJudge copies = Code.run(64, "NEW, DUP, DUP, KEEP 0, LOAD 0, SAME, STOP");
        Due.is("copies are not made", 1, copies.records());
    }

    private static void recordsIdle() {
        Due.is("new", 0, new PathJudge(4, 8).records());
        for (PathJudge judge : Code.busy()) {
            Due.holds("not 0 before", judge.records() != 0);
            judge.patch(0, Code.NEW, 0);
            Due.is("after a reset", 0, judge.records());
        }
    }

    private static void cellOfStack() {
        PathJudge judge = Code.started(0, "PUSH 41, PUSH 42, PUSH 43, PUSH 44, POP, POP, POP, POP, JUMP 0");
        int[] heights = {0, 1, 2, 3, 4, 3, 2, 1, 0};
        for (int height : heights) {
            for (int i = 0; i < 4; i++) {
                Due.is("cell(" + i + ") of " + height, i < height ? 41 + i : 0, judge.cell(i));
            }
            judge.step(1);
        }
    }

    private static void cellOfLocals() {
        PathJudge judge = Code.started(0, "PUSH 41, KEEP 0, PUSH 42, KEEP 1, PUSH 1, PUSH 2, PUSH 3, PUSH 4, STOP");
        for (int p = 0; p < 9; p++) {
            Due.is("cell(4) at " + p, p < 2 ? 0 : 41, judge.cell(4));
            Due.is("cell(5) at " + p, p < 4 ? 0 : 42, judge.cell(5));
            judge.step(1);
        }
        Due.is("cell(3), the top of a full stack", 4, judge.cell(3));
        Due.is("cell(4) when STOPPED", 41, judge.cell(4));
        Due.is("cell(5) when STOPPED", 42, judge.cell(5));
    }

    private static void cellOfRecords() {
        PathJudge judge = Code.started(0, "NEW, DUP, PUSH 77, WRITE, POP, JUMP 0");
        for (int made = 1; made <= 8; made++) {
            judge.step(1);
            Due.is("a new field", 0, judge.cell(8 + made - 1));
            judge.step(5);
            for (int r = 0; r < 9; r++) {
                Due.is("field " + r + " of " + made, r < made ? 77 : 0, judge.cell(8 + r));
            }
        }
        judge.step(1);
        Due.is("EXHAUSTED", 77, judge.cell(15));
        judge.start(0);
        Due.is("none is there yet", 0, judge.cell(8));
        judge.step(12);
        Due.is("the second", 77, judge.cell(9));
        Due.is("the third is of the run before", 0, judge.cell(10));
        PathJudge apart = Code.run(8, "NEW, NEW, PUSH 6, WRITE, PUSH 5, WRITE, PUSH 0, STOP");
        Due.is("field 0", 5, apart.cell(8));
        Due.is("field 1", 6, apart.cell(9));
    }

    private static void cellElsewhere() {
        PathJudge judge = Code.run(8 * 4 + 4, "PUSH 41, KEEP 0, PUSH 42, KEEP 1, NEW, PUSH 77, WRITE, JUMP 4");
        Code.isAt("eight records", judge, PathJudge.RUNNING, 4, 0, 8);
        for (int i : new int[] {0, 1, 2, 3, 6, 7}) {
            Due.is("cell(" + i + ")", 0, judge.cell(i));
        }
        for (int i : Code.OUTSIDE) {
            Due.is("cell(" + i + ")", 0, judge.cell(i));
        }
        PathJudge high = Code.run(64, "PUSH 1, PUSH 2, PUSH 3, PUSH 4, STOP");
        for (int i = 4; i < 20; i++) {
            Due.is("beside a full stack: cell(" + i + ")", 0, high.cell(i));
        }
        PathJudge low = Code.run(6, "PUSH 1, PUSH 2, PUSH 3, PUSH 4, POP, POP, STOP");
        Due.is("a cell that was dropped", 0, low.cell(2));
        Due.is("the cell above it", 0, low.cell(3));
    }

    private static void cellIdle() {
        PathJudge fresh = new PathJudge(4, 8);
        for (int i = -1; i < 17; i++) {
            Due.is("new: cell(" + i + ")", 0, fresh.cell(i));
        }
        for (PathJudge judge : Code.busy()) {
            Due.is("local 1 before", 7, judge.cell(5));
            judge.patch(0, Code.NEW, 0);
            for (int i = -1; i < 17; i++) {
                Due.is("after a reset: cell(" + i + ")", 0, judge.cell(i));
            }
        }
    }
}
