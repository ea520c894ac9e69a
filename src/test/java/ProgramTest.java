import java.util.List;

/** Promises 1 to 5: the object and its program. */
public final class ProgramTest {
    private static final int[] NO_OPERATION = {Code.MIN, -14, -2, -1, 14, 15, 16, 256, 1 << 16, Code.MAX};
    private static final int[] NO_LOCAL = {Code.MIN, -2, -1, 2, 3, 4, 5, 256, 1 << 16, Code.MAX};

    private ProgramTest() {
    }

    public static void main(String[] args) {
        Document.open("## Promise 1: A new object `PathJudge(int maxHeight, int pool)`:", "## Promise 2");
        Document.says("An empty program;", ProgramTest::newProgram);
        Document.says("the machine is IDLE.", ProgramTest::newMachine);
        Document.says("maxHeight: the greatest height of the stack, clamped to 1 .. 4.", ProgramTest::maxHeight);
        Document.says("pool: how many records the machine can make in one run, clamped to 1 .. 8.",
                ProgramTest::pool);

        Document.open("## Promise 2: emit `int emit(int op, int arg)`:", "## Promise 3");
        Document.says("Appends an instruction.", ProgramTest::emitAppends);
        Document.says("Refused with -1 when 16 are there;", ProgramTest::emitToFull);
        Document.says("then refused with -2 when op is not 0 .. 13;", ProgramTest::emitNoOperation);
        Document.says("then refused with -3 when op is LOAD or KEEP and arg is not 0 or 1.",
                ProgramTest::emitNoLocal);
        Document.says("(The arguments of JUMP and FORK may be any ints.)", ProgramTest::emitAnyTarget);
        Document.says("Otherwise answers the position of the new instruction;", ProgramTest::emitAnswers);
        Document.says("the machine is reset (see status()).", ProgramTest::emitResets);
        Document.says("A refused call changes nothing.", ProgramTest::emitRefused);

        Document.open("## Promise 3: patch `int patch(int p, int op, int arg)`:", "## Promise 4");
        Document.says("Replaces the instruction at p.", ProgramTest::patchReplaces);
        Document.says("Refused with -1 when p is not 0 .. length() - 1;", ProgramTest::patchNoPosition);
        Document.says("then with -2 and -3 as in emit.", ProgramTest::patchNoInstruction);
        Document.says("Otherwise answers p;", ProgramTest::patchAnswers);
        Document.says("the machine is reset, even when the new instruction equals the old one.",
                ProgramTest::patchResets);

        Document.open("## Promise 4: clear `void clear()`:", "## Promise 5");
        Document.says("Makes the program empty", ProgramTest::clearEmpties);
        Document.says("and resets the machine.", ProgramTest::clearResets);

        Document.open("## Promise 5: length `int length()`:", "## Promise 6");
        Document.says("The number of instructions.", ProgramTest::length);
        Document.end();
    }

    private static void isEmpty(String when, PathJudge judge) {
        Due.is(when + ": length()", 0, judge.length());
        Due.is(when + ": verdict()", PathJudge.EMPTY, judge.verdict());
        for (int p = -1; p <= 16; p++) {
            Due.is(when + ": distance(" + p + ")", -1, judge.distance(p));
            Due.is(when + ": faults(" + p + ")", 0, judge.faults(p));
            Due.is(when + ": heights(" + p + ")", 0, judge.heights(p));
            Due.is(when + ": kinds(" + p + ", 0, 4)", 0, judge.kinds(p, 0, 4));
        }
    }

    private static void newProgram() {
        for (int size : new int[] {Code.MIN, 0, 1, 4, 8, Code.MAX}) {
            isEmpty("PathJudge(" + size + ", " + size + ")", new PathJudge(size, size));
        }
        PathJudge first = Code.program(4, 8, "PUSH 1");
        PathJudge second = new PathJudge(4, 8);
        isEmpty("a second object", second);
        Due.is("the first object", 1, first.length());
    }

    private static void newMachine() {
        for (int size : new int[] {Code.MIN, 0, 1, 4, 8, Code.MAX}) {
            PathJudge judge = new PathJudge(size, size);
            Code.isIdle("PathJudge(" + size + ", " + size + ")", judge);
            Due.is("step(1)", 0, judge.step(1));
        }
    }

    private static void maxHeight() {
        int[] given = {Code.MIN, -4, -1, 0, 1, 2, 3, 4, 5, 8, 256, Code.MAX};
        int[] kept = {1, 1, 1, 1, 1, 2, 3, 4, 4, 4, 4, 4};
        for (int i = 0; i < given.length; i++) {
            String what = "maxHeight " + given[i];
            PathJudge fits = Code.program(given[i], 1, "PUSH 6, ".repeat(kept[i]) + "STOP");
            Due.is(what + ": the stack can be full", true, fits.start(0));
            Due.is(what + ": step(64)", kept[i] + 1, fits.step(64));
            Due.is(what + ": height()", kept[i], fits.height());
            Due.is(what + ": top cell", 6, fits.cell(kept[i] - 1));
            PathJudge tooHigh = Code.program(given[i], 1, "PUSH 6, ".repeat(kept[i] + 1) + "STOP");
            Due.is(what + ": one cell more", PathJudge.OVER, tooHigh.faults(kept[i]));
            Due.is(what + ": one cell more", false, tooHigh.start(0));
        }
    }

    private static void pool() {
        int[] given = {Code.MIN, -8, -1, 0, 1, 2, 3, 4, 5, 6, 7, 8, 9, 16, 256, Code.MAX};
        int[] kept = {1, 1, 1, 1, 1, 2, 3, 4, 5, 6, 7, 8, 8, 8, 8, 8};
        for (int i = 0; i < given.length; i++) {
            PathJudge judge = Code.program(1, given[i], "NEW, POP, JUMP 0");
            for (int run = 0; run < 2; run++) {
                String what = "pool " + given[i] + ", run " + run;
                Due.is(what + ": start(0)", true, judge.start(0));
                Due.is(what + ": step(64)", 3 * kept[i], judge.step(64));
                Due.is(what + ": records()", kept[i], judge.records());
                Due.is(what + ": status()", PathJudge.EXHAUSTED, judge.status());
            }
        }
        PathJudge apart = Code.program(1, 8, "PUSH 0, PUSH 0");
        Due.is("the pool is not the height", PathJudge.OVER, apart.faults(1));
        PathJudge deep = Code.program(4, 1, "PUSH 0, PUSH 0, PUSH 0, PUSH 0, STOP");
        Due.is("the height is not the pool", PathJudge.SAFE, deep.verdict());
    }

    private static void emitAppends() {
        PathJudge judge = new PathJudge(4, 8);
        judge.emit(Code.PUSH, 5);
        Due.is("one instruction", 1, judge.length());
        Due.is("its end is the program's", PathJudge.LEAVES, judge.faults(0));
        judge.emit(Code.PUSH, 9);
        judge.emit(Code.STOP, 0);
        Due.is("three instructions", 3, judge.length());
        Due.is("the end has moved", 0, judge.faults(0));
        judge.start(0);
        judge.step(64);
        Code.isStack("in their order", judge, 5, 9);
    }

    private static PathJudge full() {
        return Code.program(4, 8, "PUSH 3" + ", STOP".repeat(15));
    }

    private static void emitToFull() {
        PathJudge judge = Code.program(4, 8, "PUSH 3" + ", STOP".repeat(14));
        Due.is("15 are there", 15, judge.emit(Code.STOP, 0));
        for (int op = 0; op < 14; op++) {
            Due.is("16 are there: emit(" + op + ", 0)", -1, judge.emit(op, 0));
        }
        for (int op : NO_OPERATION) {
            Due.is("this is looked at before op " + op, -1, judge.emit(op, 0));
        }
        for (int arg : NO_LOCAL) {
            Due.is("this is looked at before LOAD " + arg, -1, judge.emit(Code.LOAD, arg));
            Due.is("this is looked at before KEEP " + arg, -1, judge.emit(Code.KEEP, arg));
        }
        judge.clear();
        Due.is("none is there any more", 0, judge.emit(Code.STOP, 0));
    }

    private static void emitNoOperation() {
        PathJudge fifteen = Code.program(4, 8, "STOP" + ", STOP".repeat(14));
        for (PathJudge judge : new PathJudge[] {new PathJudge(4, 8), fifteen}) {
            for (int op : NO_OPERATION) {
                Due.is("emit(" + op + ", 0)", -2, judge.emit(op, 0));
                Due.is("this is looked at before arg: emit(" + op + ", 2)", -2, judge.emit(op, 2));
                Due.is("this is looked at before arg: emit(" + op + ", -1)", -2, judge.emit(op, -1));
            }
            int p = judge.length();
            Due.is("13 is an operation", p, judge.emit(13, 0));
            judge.clear();
            Due.is("0 is an operation", 0, judge.emit(0, 0));
        }
    }

    private static void emitNoLocal() {
        PathJudge judge = new PathJudge(4, 8);
        for (int arg : NO_LOCAL) {
            Due.is("LOAD " + arg, -3, judge.emit(Code.LOAD, arg));
            Due.is("KEEP " + arg, -3, judge.emit(Code.KEEP, arg));
        }
        Code.append(judge, "LOAD 0, LOAD 1, KEEP 0, KEEP 1");
        for (int op = 0; op < 14; op++) {
            for (int arg : op == Code.LOAD || op == Code.KEEP ? new int[0] : NO_LOCAL) {
                judge.clear();
                Due.is("no local is named by " + Code.name(op) + " " + arg, 0, judge.emit(op, arg));
            }
        }
    }

    private static void emitAnyTarget() {
        for (int target : Code.OUTSIDE) {
            PathJudge judge = new PathJudge(4, 8);
            Due.is("JUMP " + target, 0, judge.emit(Code.JUMP, target));
            Due.is("JUMP leaves", PathJudge.LEAVES, judge.faults(0));
            Due.is("FORK " + target, 1, judge.emit(Code.FORK, target));
            Due.is("length()", 2, judge.length());
        }
        for (int target = 0; target < 16; target++) {
            PathJudge judge = new PathJudge(4, 8);
            Due.is("JUMP " + target, 0, judge.emit(Code.JUMP, target));
            Due.is("FORK " + target, 1, judge.emit(Code.FORK, target));
        }
    }

    private static void emitAnswers() {
        PathJudge judge = new PathJudge(4, 8);
        for (int round = 0; round < 3; round++) {
            for (int p = 0; p < 16; p++) {
                Due.is("emit, round " + round, p, judge.emit((p + round) % 14, p % 2));
            }
            judge.clear();
        }
    }

    private static void emitResets() {
        for (PathJudge judge : Code.busy()) {
            int length = judge.length();
            Due.is("emit", length, judge.emit(Code.STOP, 0));
            Code.isIdle("after emit", judge);
            Due.is("step(1)", 0, judge.step(1));
        }
        PathJudge idle = Code.program(4, 8, "PUSH 1, STOP");
        Code.isIdle("it was IDLE", idle);
    }

    /** The machine goes on with the run, so that a change that no answer shows would come out. */
    private static void emitRefused() {
        for (PathJudge judge : Code.busy()) {
            List<Integer> before = Code.answers(judge);
            Due.is("op -1", -2, judge.emit(-1, 0));
            Due.is("op 14", -2, judge.emit(14, 0));
            Due.is("LOAD 2", -3, judge.emit(Code.LOAD, 2));
            Due.is("KEEP -1", -3, judge.emit(Code.KEEP, -1));
            Due.holds("nothing is changed", before.equals(Code.answers(judge)));
        }
        PathJudge full = full();
        full.start(0);
        full.step(1);
        List<Integer> before = Code.answers(full);
        Due.is("16 are there", -1, full.emit(Code.POP, 0));
        Due.is("16 are there", -1, full.emit(14, 0));
        Due.holds("nothing is changed in a full program", before.equals(Code.answers(full)));
        Due.is("the run goes on", 1, full.step(64));
        Code.isAt("the run goes on", full, PathJudge.STOPPED, 1, 1, 0);
        PathJudge empty = new PathJudge(4, 8);
        empty.emit(14, 0);
        empty.emit(Code.LOAD, 2);
        isEmpty("refused in an empty program", empty);
        PathJudge forks = Code.started(2, "FORK 0, JUMP 0");
        forks.step(1);
        Due.is("op 14", -2, forks.emit(14, 0));
        forks.step(2);
        Due.is("the second fork goes as it was to", 0, forks.position());
    }

    private static void patchReplaces() {
        PathJudge judge = Code.program(4, 8, "PUSH 3, PUSH 4, STOP");
        Due.is("patch of the argument", 0, judge.patch(0, Code.PUSH, -9));
        Due.is("patch of the operation", 1, judge.patch(1, Code.DUP, 4));
        Due.is("length()", 3, judge.length());
        judge.start(0);
        judge.step(64);
        Code.isStack("the two that are replaced and the one that is not", judge, -9, -9);
        Due.is("patch to NEW", 1, judge.patch(1, Code.NEW, 0));
        Due.is("a fault comes", PathJudge.KIND, judge.faults(2));
        Due.is("a kind comes", PathJudge.RECORD, judge.kinds(2, 2, 1));
        Due.is("patch back", 1, judge.patch(1, Code.PUSH, 0));
        Due.is("the fault goes", 0, judge.faults(2));
        Due.is("the kind goes", PathJudge.NUMBER, judge.kinds(2, 2, 1));
        Due.is("verdict()", PathJudge.SAFE, judge.verdict());
        PathJudge full = full();
        Due.is("patch(15)", 15, full.patch(15, Code.POP, 0));
        Due.is("patch(0)", 0, full.patch(0, Code.JUMP, 15));
        Due.is("the last of 16", PathJudge.UNDER, full.faults(15));
    }

    private static void patchNoPosition() {
        PathJudge judge = Code.program(4, 8, "PUSH 3, STOP");
        for (int p : Code.OUTSIDE) {
            Due.is("patch(" + p + ")", -1, judge.patch(p, Code.PUSH, 0));
        }
        for (int p = 2; p < 16; p++) {
            Due.is("patch(" + p + ") of 2", -1, judge.patch(p, Code.PUSH, 0));
        }
        Due.is("patch(length() - 1)", 1, judge.patch(1, Code.STOP, 0));
        Due.is("patch(0)", 0, judge.patch(0, Code.PUSH, 0));
        judge.clear();
        Due.is("patch(0) of a cleared program", -1, judge.patch(0, Code.PUSH, 0));
        Due.is("patch(0) of a new program", -1, new PathJudge(4, 8).patch(0, Code.PUSH, 0));
        PathJudge full = full();
        Due.is("patch(15) of 16", 15, full.patch(15, Code.PUSH, 1));
        Due.is("patch(16) of 16", -1, full.patch(16, Code.PUSH, 1));
        Due.is("patch(-1) of 16", -1, full.patch(-1, Code.PUSH, 1));
        Due.is("this is looked at before op", -1, full.patch(16, 14, 0));
        Due.is("this is looked at before arg", -1, full.patch(-1, Code.LOAD, 2));
        isRefused(judgeWithFour(), 4, Code.PUSH, 0);
        isRefused(judgeWithFour(), -1, Code.PUSH, 0);
    }

    private static PathJudge judgeWithFour() {
        return Code.run(2, "NEW, DUP, READ, STOP");
    }

    /** A refused call changes nothing, here as in emit. */
    private static void isRefused(PathJudge judge, int p, int op, int arg) {
        List<Integer> before = Code.answers(judge);
        Due.holds("patch is refused", judge.patch(p, op, arg) < 0);
        Due.holds("nothing is changed", before.equals(Code.answers(judge)));
        Due.is("the run goes on", 2, judge.step(64));
        Code.isStack("the run goes on", judge, 0, 0);
        Due.is("the program stays", true, judge.start(0));
        Due.is("the program stays", 4, judge.step(64));
    }

    private static void patchNoInstruction() {
        PathJudge full = full();
        for (int op : NO_OPERATION) {
            Due.is("op " + op, -2, full.patch(0, op, 0));
            Due.is("op " + op + ", looked at before arg", -2, full.patch(15, op, 2));
        }
        for (int arg : NO_LOCAL) {
            Due.is("LOAD " + arg, -3, full.patch(0, Code.LOAD, arg));
            Due.is("KEEP " + arg, -3, full.patch(15, Code.KEEP, arg));
            Due.is("PUSH " + arg, 15, full.patch(15, Code.PUSH, arg));
        }
        for (int target : Code.OUTSIDE) {
            Due.is("JUMP " + target, 0, full.patch(0, Code.JUMP, target));
            Due.is("FORK " + target, 15, full.patch(15, Code.FORK, target));
        }
        for (int op = 0; op < 14; op++) {
            Due.is("op " + op + " with 0", 3, full.patch(3, op, 0));
            Due.is("op " + op + " with 1", 3, full.patch(3, op, 1));
        }
        isRefused(judgeWithFour(), 0, -1, 0);
        isRefused(judgeWithFour(), 3, 14, 0);
        isRefused(judgeWithFour(), 0, Code.LOAD, 2);
        isRefused(judgeWithFour(), 3, Code.KEEP, -1);
    }

    private static void patchAnswers() {
        for (int length = 1; length <= 16; length++) {
            PathJudge judge = Code.program(4, 8, "STOP" + ", STOP".repeat(length - 1));
            for (int p = 0; p < length; p++) {
                Due.is("patch(" + p + ") of " + length, p, judge.patch(p, (p + length) % 14, 1));
            }
            Due.is("length()", length, judge.length());
        }
    }

    private static void patchResets() {
        for (PathJudge judge : Code.busy()) {
            Due.is("the same instruction", 0, judge.patch(0, Code.NEW, 0));
            Code.isIdle("after the same instruction", judge);
            Due.is("step(1)", 0, judge.step(1));
            Due.is("verdict()", PathJudge.SAFE, judge.verdict());
            Due.is("the program stays", true, judge.start(0));
            Due.is("the program stays", 5, judge.step(5));
            Due.is("the program stays", 7, judge.cell(5));
        }
        for (PathJudge judge : Code.busy()) {
            int last = judge.length() - 1;
            Due.is("another instruction", last, judge.patch(last, Code.POP, 0));
            Code.isIdle("after another instruction", judge);
            Due.is("step(1)", 0, judge.step(1));
        }
    }

    private static void clearEmpties() {
        PathJudge full = Code.program(4, 8, "FORK 2" + ", POP".repeat(15));
        Due.is("UNSAFE before", PathJudge.UNSAFE, full.verdict());
        full.clear();
        isEmpty("after 16", full);
        full.clear();
        isEmpty("after none", full);
        Due.is("start(0)", false, full.start(0));
        Code.append(full, "JUMP 0");
        isOneJump(full);
        Code.append(full, "STOP" + ", STOP".repeat(14));
        Due.is("16 have room again", 16, full.length());
        PathJudge untouched = new PathJudge(4, 8);
        untouched.clear();
        isEmpty("after nothing at all", untouched);
    }

    /** Nothing of the program before is left. */
    private static void isOneJump(PathJudge judge) {
        Due.is("a new program: verdict()", PathJudge.SAFE, judge.verdict());
        Due.is("a new program: distance(0)", 0, judge.distance(0));
        for (int p = 1; p < 16; p++) {
            Due.is("a new program: distance(" + p + ")", -1, judge.distance(p));
            Due.is("a new program: faults(" + p + ")", 0, judge.faults(p));
            Due.is("a new program: heights(" + p + ")", 0, judge.heights(p));
        }
    }

    private static void clearResets() {
        for (PathJudge judge : Code.busy()) {
            judge.clear();
            Code.isIdle("after clear", judge);
            Due.is("step(1)", 0, judge.step(1));
        }
        PathJudge idle = Code.program(4, 8, "PUSH 1, STOP");
        idle.clear();
        Code.isIdle("it was IDLE", idle);
    }

    private static void length() {
        PathJudge judge = new PathJudge(4, 8);
        for (int p = 0; p < 16; p++) {
            Due.is("length()", p, judge.length());
            judge.emit(14, 0);
            judge.emit(Code.LOAD, 2);
            Due.is("after refused calls", p, judge.length());
            judge.emit(Code.STOP, 0);
        }
        Due.is("length() when full", 16, judge.length());
        judge.emit(Code.STOP, 0);
        Due.is("after one too many", 16, judge.length());
        judge.patch(3, Code.POP, 0);
        judge.patch(16, Code.POP, 0);
        Due.is("after patch", 16, judge.length());
        judge.clear();
        Due.is("after clear", 0, judge.length());
        judge.clear();
        Due.is("after another clear", 0, judge.length());
    }
}
