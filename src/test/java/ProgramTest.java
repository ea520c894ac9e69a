/** Promises 1 to 5: the object and its program. */
public final class ProgramTest {
    private static final int[] FAR = {Integer.MIN_VALUE, -100, -2, -1, 16, 17, 100, Integer.MAX_VALUE};

    private ProgramTest() {
    }

    public static void main(String[] args) {
        newObject();
        maxHeightIsClamped();
        poolIsClamped();
        emitAppends();
        emitRefuses();
        emitResets();
        patchReplaces();
        patchRefuses();
        clearEmpties();
        lengthCounts();
        Due.end();
    }

    private static void newObject() {
        PathJudge judge = new PathJudge(4, 8);
        Due.is("1: length()", 0, judge.length());
        Due.is("1: verdict()", PathJudge.EMPTY, judge.verdict());
        Due.is("1: start(0)", false, judge.start(0));
        Due.is("1: step(1)", 0, judge.step(1));
        Code.isIdle("1: new", judge);
        for (int p = -1; p <= 16; p++) {
            Due.is("1: distance(" + p + ")", -1, judge.distance(p));
            Due.is("1: faults(" + p + ")", 0, judge.faults(p));
            Due.is("1: heights(" + p + ")", 0, judge.heights(p));
            Due.is("1: kinds(" + p + ", 0, 4)", 0, judge.kinds(p, 0, 4));
        }
        PathJudge other = Code.program(4, 8, Code.PUSH, 1);
        Due.is("1: two objects: length()", 0, judge.length());
        Due.is("1: two objects: length()", 1, other.length());
    }

    private static void maxHeightIsClamped() {
        int[] given = {Integer.MIN_VALUE, -1, 0, 1, 2, 3, 4, 5, Integer.MAX_VALUE};
        int[] kept = {1, 1, 1, 1, 2, 3, 4, 4, 4};
        for (int i = 0; i < given.length; i++) {
            PathJudge judge = Code.program(given[i], 1, Code.PUSH, 0, Code.JUMP, 0);
            Due.is("1: height of " + given[i], (1 << (kept[i] + 1)) - 1, judge.heights(0));
            Due.is("1: height of " + given[i], PathJudge.OVER, judge.faults(0));
        }
    }

    private static void poolIsClamped() {
        int[] given = {Integer.MIN_VALUE, -1, 0, 1, 2, 7, 8, 9, Integer.MAX_VALUE};
        int[] kept = {1, 1, 1, 1, 2, 7, 8, 8, 8};
        for (int i = 0; i < given.length; i++) {
            PathJudge judge = Code.program(1, given[i], Code.NEW, 0, Code.POP, 0, Code.JUMP, 0);
            judge.start(0);
            Due.is("1: steps of pool " + given[i], 3 * kept[i], judge.step(64));
            Due.is("1: records of pool " + given[i], kept[i], judge.records());
        }
    }

    private static void emitAppends() {
        PathJudge judge = new PathJudge(4, 8);
        for (int p = 0; p < 14; p++) {
            Due.is("2: emit(" + p + ", 1)", p, judge.emit(p, 1));
        }
        Due.is("2: emit(JUMP, MIN)", 14, judge.emit(Code.JUMP, Integer.MIN_VALUE));
        Due.is("2: emit(FORK, MAX)", 15, judge.emit(Code.FORK, Integer.MAX_VALUE));
        PathJudge ignored = Code.program(4, 8, Code.NEW, -7, Code.READ, 99, Code.STOP, Integer.MIN_VALUE);
        Due.is("2: an argument that is ignored", PathJudge.SAFE, ignored.verdict());
    }

    private static void emitRefuses() {
        PathJudge judge = Code.run(0, 1, 8, Code.PUSH, 3, Code.JUMP, 1);
        for (int op : new int[] {Integer.MIN_VALUE, -1, 14, Integer.MAX_VALUE}) {
            Due.is("2: emit(" + op + ", 0)", -2, judge.emit(op, 0));
            Due.is("2: emit(" + op + ", 5)", -2, judge.emit(op, 5));
        }
        for (int arg : new int[] {Integer.MIN_VALUE, -1, 2, 3, Integer.MAX_VALUE}) {
            Due.is("2: emit(LOAD, " + arg + ")", -3, judge.emit(Code.LOAD, arg));
            Due.is("2: emit(KEEP, " + arg + ")", -3, judge.emit(Code.KEEP, arg));
        }
        Due.is("2: refused: length()", 2, judge.length());
        Code.isAt("2: refused", judge, PathJudge.RUNNING, 1, 1, 0);
        PathJudge full = new PathJudge(4, 8);
        Due.is("2: emit", 0, full.emit(Code.PUSH, 3));
        for (int p = 1; p < 16; p++) {
            Due.is("2: emit", p, full.emit(Code.STOP, 0));
        }
        full.start(0);
        full.step(1);
        Due.is("2: full: emit", -1, full.emit(Code.STOP, 0));
        Due.is("2: full before op", -1, full.emit(14, 0));
        Due.is("2: full before arg", -1, full.emit(Code.LOAD, 2));
        Due.is("2: full: length()", 16, full.length());
        Code.isAt("2: full", full, PathJudge.RUNNING, 1, 1, 0);
        Due.is("2: full: distance(15)", -1, full.distance(15));
    }

    private static void emitResets() {
        PathJudge judge = Code.run(0, 4, 8, Code.NEW, 0, Code.DUP, 0, Code.KEEP, 0, Code.READ, 0, Code.STOP, 0);
        Code.isAt("2: before", judge, PathJudge.RUNNING, 4, 1, 1);
        Due.is("2: emit", 5, judge.emit(Code.STOP, 0));
        Code.isIdle("2: after emit", judge);
        Due.is("2: step(1)", 0, judge.step(1));
    }

    private static void patchReplaces() {
        PathJudge judge = Code.run(0, 64, 8, Code.PUSH, 3, Code.STOP, 0);
        Due.is("3: same patch", 1, judge.patch(1, Code.STOP, 0));
        Code.isIdle("3: after the same patch", judge);
        judge.start(0);
        judge.step(2);
        Due.is("3: patch(0)", 0, judge.patch(0, Code.PUSH, -9));
        Code.isIdle("3: after patch", judge);
        Due.is("3: length()", 2, judge.length());
        judge.start(0);
        judge.step(2);
        Due.is("3: cell(0)", -9, judge.cell(0));
        Due.is("3: patch to NEW", 0, judge.patch(0, Code.NEW, 0));
        Due.is("3: verdict()", PathJudge.UNSAFE, judge.verdict());
        Due.is("3: faults(1)", PathJudge.KIND, judge.faults(1));
        Due.is("3: patch back", 0, judge.patch(0, Code.PUSH, 0));
        Due.is("3: verdict()", PathJudge.SAFE, judge.verdict());
        Due.is("3: faults(1)", 0, judge.faults(1));
        Due.is("3: kinds(1, 1, 0)", PathJudge.NUMBER, judge.kinds(1, 1, 0));
        Due.is("3: patch(JUMP)", 0, judge.patch(0, Code.JUMP, Integer.MIN_VALUE));
        Due.is("3: patch(FORK)", 0, judge.patch(0, Code.FORK, Integer.MAX_VALUE));
        Due.is("3: patch(LOAD)", 0, judge.patch(0, Code.LOAD, 1));
        Due.is("3: patch(KEEP)", 0, judge.patch(0, Code.KEEP, 1));
    }

    private static void patchRefuses() {
        PathJudge judge = Code.run(0, 1, 8, Code.PUSH, 3, Code.STOP, 0);
        for (int p : FAR) {
            Due.is("3: patch(" + p + ")", -1, judge.patch(p, Code.PUSH, 0));
        }
        Due.is("3: patch(length())", -1, judge.patch(2, Code.PUSH, 0));
        Due.is("3: p before op", -1, judge.patch(2, 14, 0));
        Due.is("3: op -1", -2, judge.patch(0, -1, 0));
        Due.is("3: op 14", -2, judge.patch(1, 14, 2));
        Due.is("3: LOAD 2", -3, judge.patch(0, Code.LOAD, 2));
        Due.is("3: LOAD -1", -3, judge.patch(1, Code.LOAD, -1));
        Due.is("3: KEEP 2", -3, judge.patch(0, Code.KEEP, 2));
        Due.is("3: KEEP -1", -3, judge.patch(1, Code.KEEP, -1));
        Code.isAt("3: refused", judge, PathJudge.RUNNING, 1, 1, 0);
        Due.is("3: cell(0)", 3, judge.cell(0));
        Due.is("3: verdict()", PathJudge.SAFE, judge.verdict());
        Due.is("3: empty", -1, new PathJudge(4, 8).patch(0, Code.PUSH, 0));
        PathJudge full = new PathJudge(4, 8);
        for (int p = 0; p < 16; p++) {
            full.emit(Code.STOP, 0);
        }
        Due.is("3: full: patch(15)", 15, full.patch(15, Code.PUSH, 1));
        Due.is("3: full: patch(16)", -1, full.patch(16, Code.PUSH, 1));
    }

    private static void clearEmpties() {
        PathJudge judge = Code.run(0, 4, 8, Code.NEW, 0, Code.DUP, 0, Code.KEEP, 0, Code.READ, 0, Code.STOP, 0);
        Code.isAt("4: before", judge, PathJudge.RUNNING, 4, 1, 1);
        judge.clear();
        Code.isIdle("4: after", judge);
        Due.is("4: length()", 0, judge.length());
        Due.is("4: verdict()", PathJudge.EMPTY, judge.verdict());
        Due.is("4: heights(0)", 0, judge.heights(0));
        Due.is("4: distance(0)", -1, judge.distance(0));
        Due.is("4: start(0)", false, judge.start(0));
        Due.is("4: emit", 0, judge.emit(Code.JUMP, 0));
        Due.is("4: nothing of the old program", -1, judge.distance(1));
        Due.is("4: verdict()", PathJudge.SAFE, judge.verdict());
        judge.patch(0, Code.POP, 0);
        Due.is("4: verdict()", PathJudge.UNSAFE, judge.verdict());
        judge.clear();
        judge.clear();
        Due.is("4: no fault is left", PathJudge.EMPTY, judge.verdict());
        Due.is("4: no fault is left", 0, judge.faults(0));
    }

    private static void lengthCounts() {
        PathJudge judge = new PathJudge(4, 8);
        for (int p = 0; p < 16; p++) {
            Due.is("5: length()", p, judge.length());
            judge.emit(Code.STOP, 0);
        }
        Due.is("5: length()", 16, judge.length());
        judge.patch(3, Code.POP, 0);
        Due.is("5: after patch", 16, judge.length());
        judge.clear();
        Due.is("5: after clear", 0, judge.length());
    }
}
