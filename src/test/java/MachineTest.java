/** Promises 11 to 17: the machine. */
public final class MachineTest {
    private MachineTest() {
    }

    public static void main(String[] args) {
        startRefuses();
        startsAfresh();
        stepsAreCounted();
        stepsNotRunning();
        operations();
        addWraps();
        unsetLocals();
        recordsAreNumbered();
        sameRecords();
        forksFollowChoices();
        forksWrapAtThirtyTwo();
        stops();
        exhausts();
        cells();
        Due.end();
    }

    private static void startRefuses() {
        PathJudge empty = new PathJudge(4, 8);
        Due.is("11: empty", false, empty.start(5));
        Code.isIdle("11: empty", empty);
        PathJudge judge = Code.program(4, 8, Code.PUSH, 1, Code.POP, 0);
        Due.is("11: unsafe", false, judge.start(0));
        Code.isIdle("11: unsafe", judge);
        Due.is("11: unsafe: step(4)", 0, judge.step(4));
    }

    private static void startsAfresh() {
        PathJudge judge = Code.program(4, 2, Code.NEW, 0, Code.DUP, 0, Code.KEEP, 1, Code.PUSH, 7, Code.WRITE, 0,
                Code.PUSH, 6, Code.KEEP, 0, Code.FORK, 9, Code.JUMP, 0, Code.PUSH, 5, Code.STOP, 0);
        Due.is("11: start(1)", true, judge.start(1));
        Code.isAt("11: started", judge, PathJudge.RUNNING, 0, 0, 0);
        Due.is("11: step(64)", 10, judge.step(64));
        Code.isAt("11: stopped", judge, PathJudge.STOPPED, 10, 1, 1);
        Due.is("11: cell(4)", 6, judge.cell(4));
        Due.is("11: cell(5)", 0, judge.cell(5));
        Due.is("11: start(0) when STOPPED", true, judge.start(0));
        isFresh(judge);
        Due.is("11: new choices, new count of forks", 18, judge.step(64));
        Code.isAt("11: exhausted", judge, PathJudge.EXHAUSTED, 0, 0, 2);
        Due.is("11: cell(5)", 1, judge.cell(5));
        Due.is("11: start(2) when EXHAUSTED", true, judge.start(2));
        isFresh(judge);
        Due.is("11: the second fork goes", 19, judge.step(64));
        Due.is("11: start(0)", true, judge.start(0));
        Due.is("11: step(6)", 6, judge.step(6));
        Due.is("11: start(1) when RUNNING", true, judge.start(1));
        isFresh(judge);
        Due.is("11: step(2)", 2, judge.step(2));
        Due.is("11: a new record's field", 0, judge.cell(8));
        Due.is("11: a new record", 0, judge.cell(1));
    }

    private static void isFresh(PathJudge judge) {
        Code.isAt("11: afresh", judge, PathJudge.RUNNING, 0, 0, 0);
        for (int i = 0; i < 16; i++) {
            Due.is("11: afresh: cell(" + i + ")", 0, judge.cell(i));
        }
    }

    private static void stepsAreCounted() {
        PathJudge judge = Code.program(4, 8, Code.PUSH, 1, Code.PUSH, 1, Code.ADD, 0, Code.JUMP, 1);
        judge.start(0);
        int[] asked = {0, -1, Integer.MIN_VALUE, 1, 63, 64, 65, Integer.MAX_VALUE};
        int[] due = {0, 0, 0, 1, 63, 64, 64, 64};
        int total = 0;
        for (int i = 0; i < asked.length; i++) {
            Due.is("12: step(" + asked[i] + ")", due[i], judge.step(asked[i]));
            total += due[i];
            Due.is("12: position()", total == 0 ? 0 : 1 + (total - 1) % 3, judge.position());
        }
        Due.is("12: cell(0)", 1 + (total - 1) / 3, judge.cell(0));
        Due.is("13: status()", PathJudge.RUNNING, judge.status());
    }

    private static void stepsNotRunning() {
        PathJudge judge = Code.program(4, 8, Code.PUSH, 1, Code.STOP, 0);
        Due.is("12: IDLE: step(3)", 0, judge.step(3));
        Code.isIdle("12: IDLE", judge);
        judge.start(0);
        Due.is("12: step(3)", 2, judge.step(3));
        Due.is("12: STOPPED: step(3)", 0, judge.step(3));
        Code.isAt("12: STOPPED", judge, PathJudge.STOPPED, 1, 1, 0);
    }

    private static void isStack(String what, PathJudge judge, int... cells) {
        Due.is(what + ": height()", cells.length, judge.height());
        for (int i = 0; i < cells.length; i++) {
            Due.is(what + ": cell(" + i + ")", cells[i], judge.cell(i));
        }
    }

    private static void operations() {
        PathJudge judge = Code.program(4, 8, Code.PUSH, -3, Code.PUSH, 10, Code.SWAP, 0, Code.DUP, 0, Code.ADD, 0,
                Code.KEEP, 1, Code.NEW, 0, Code.DUP, 0, Code.LOAD, 1, Code.WRITE, 0, Code.READ, 0, Code.ADD, 0,
                Code.KEEP, 0, Code.LOAD, 0, Code.JUMP, 15, Code.STOP, 0);
        judge.start(0);
        int[][] stacks = {{-3}, {-3, 10}, {10, -3}, {10, -3, -3}, {10, -6}, {10}, {10, 0}, {10, 0, 0},
            {10, 0, 0, -6}, {10, 0}, {10, -6}, {4}, {}, {4}, {4}, {4}};
        for (int i = 0; i < stacks.length; i++) {
            Due.is("12: step(1)", 1, judge.step(1));
            isStack("12: after " + i, judge, stacks[i]);
        }
        Code.isAt("12: end", judge, PathJudge.STOPPED, 15, 1, 1);
        Due.is("12: local 0", 4, judge.cell(4));
        Due.is("12: local 1", -6, judge.cell(5));
        Due.is("12: field", -6, judge.cell(8));
        PathJudge pop = Code.run(0, 4, 8, Code.PUSH, 8, Code.PUSH, 9, Code.POP, 0, Code.STOP, 0);
        isStack("12: POP", pop, 8);
        PathJudge swap = Code.run(0, 5, 8, Code.PUSH, 1, Code.PUSH, 2, Code.PUSH, 3, Code.PUSH, 4, Code.SWAP, 0,
                Code.STOP, 0);
        isStack("12: SWAP on four", swap, 1, 2, 4, 3);
        PathJudge add = Code.run(0, 5, 8, Code.PUSH, 1, Code.PUSH, 2, Code.PUSH, 3, Code.PUSH, 4, Code.ADD, 0,
                Code.STOP, 0);
        isStack("12: ADD on four", add, 1, 2, 7);
    }

    private static void addWraps() {
        PathJudge up = Code.run(0, 3, 1, Code.PUSH, Integer.MAX_VALUE, Code.PUSH, 1, Code.ADD, 0, Code.STOP, 0);
        Due.is("12: MAX + 1", Integer.MIN_VALUE, up.cell(0));
        PathJudge down = Code.run(0, 3, 1, Code.PUSH, Integer.MIN_VALUE, Code.PUSH, -1, Code.ADD, 0, Code.STOP, 0);
        Due.is("12: MIN - 1", Integer.MAX_VALUE, down.cell(0));
    }

    private static void unsetLocals() {
        PathJudge judge = Code.run(0, 64, 1, Code.PUSH, 5, Code.KEEP, 0, Code.LOAD, 1, Code.KEEP, 0, Code.LOAD, 0,
                Code.PUSH, 2, Code.STOP, 0);
        isStack("12: UNSET holds 0", judge, 0, 2);
        Due.is("12: cell(4)", 0, judge.cell(4));
    }

    private static void recordsAreNumbered() {
        PathJudge judge = Code.program(4, 3, Code.NEW, 0, Code.NEW, 0, Code.NEW, 0, Code.PUSH, 30, Code.WRITE, 0,
                Code.PUSH, 20, Code.WRITE, 0, Code.DUP, 0, Code.PUSH, 10, Code.WRITE, 0, Code.READ, 0, Code.STOP, 0);
        judge.start(0);
        for (int made = 1; made <= 3; made++) {
            Due.is("12: step(1)", 1, judge.step(1));
            Due.is("16: records()", made, judge.records());
            Due.is("17: cell", made - 1, judge.cell(made - 1));
            Due.is("17: field", 0, judge.cell(8 + made - 1));
        }
        judge.step(64);
        Code.isAt("16: end", judge, PathJudge.STOPPED, 11, 1, 3);
        Due.is("12: READ", 10, judge.cell(0));
        Due.is("17: cell(8)", 10, judge.cell(8));
        Due.is("17: cell(9)", 20, judge.cell(9));
        Due.is("17: cell(10)", 30, judge.cell(10));
        Due.is("17: cell(11)", 0, judge.cell(11));
    }

    private static void sameRecords() {
        PathJudge one = Code.run(0, 3, 8, Code.NEW, 0, Code.DUP, 0, Code.SAME, 0, Code.STOP, 0);
        isStack("12: SAME, one record", one, 1);
        PathJudge two = Code.run(0, 3, 8, Code.NEW, 0, Code.NEW, 0, Code.SAME, 0, Code.STOP, 0);
        isStack("12: SAME, two records", two, 0);
        PathJudge later = Code.run(0, 5, 8, Code.NEW, 0, Code.POP, 0, Code.NEW, 0, Code.DUP, 0, Code.SAME, 0,
                Code.STOP, 0);
        isStack("12: SAME, the second record twice", later, 1);
        PathJudge below = Code.run(0, 5, 8, Code.PUSH, 6, Code.PUSH, 7, Code.NEW, 0, Code.DUP, 0, Code.SAME, 0,
                Code.STOP, 0);
        isStack("12: SAME leaves what is below", below, 6, 7, 1);
    }

    /** The cell counts the forks that went on at t by 1 and the others by 100, one fork every four steps. */
    private static PathJudge counter() {
        return Code.program(4, 1, Code.PUSH, 0, Code.FORK, 5, Code.PUSH, 100, Code.ADD, 0, Code.JUMP, 1,
                Code.PUSH, 1, Code.ADD, 0, Code.JUMP, 1);
    }

    private static void forksFollowChoices() {
        PathJudge judge = counter();
        for (int choices : new int[] {0, 1, 2, 3, 10, 0x55555555, -1, Integer.MIN_VALUE}) {
            judge.start(choices);
            judge.step(1);
            int want = 0;
            for (int k = 0; k < 3; k++) {
                boolean goes = (choices >> k & 1) == 1;
                Due.is("12: step(1)", 1, judge.step(1));
                Due.is("12: fork " + k + " of " + choices, goes ? 5 : 2, judge.position());
                judge.step(3);
                want += goes ? 1 : 100;
                Due.is("12: cell(0)", want, judge.cell(0));
            }
        }
    }

    private static void forksWrapAtThirtyTwo() {
        for (int choices : new int[] {0, 1, -1, 0x80000001, 0x7ffffffe, 0x12345678, Integer.MIN_VALUE}) {
            PathJudge judge = counter();
            judge.start(choices);
            judge.step(1);
            for (int k = 0; k < 100; k++) {
                judge.step(1);
                Due.is("12: fork " + k, (choices >>> (k % 32) & 1) == 1 ? 5 : 2, judge.position());
                judge.step(3);
            }
        }
    }

    private static void stops() {
        PathJudge judge = Code.run(0, 2, 8, Code.NEW, 0, Code.PUSH, 4, Code.STOP, 0);
        Code.isAt("12: before STOP", judge, PathJudge.RUNNING, 2, 2, 1);
        Due.is("12: STOP counts", 1, judge.step(5));
        Code.isAt("12: after STOP", judge, PathJudge.STOPPED, 2, 2, 1);
        isStack("12: after STOP", judge, 0, 4);
    }

    private static void exhausts() {
        PathJudge judge = Code.program(4, 2, Code.PUSH, 9, Code.KEEP, 0, Code.NEW, 0, Code.POP, 0, Code.PUSH, 8,
                Code.POP, 0, Code.JUMP, 2);
        judge.start(0);
        Due.is("12: NEW is not counted", 12, judge.step(64));
        Code.isAt("12: EXHAUSTED", judge, PathJudge.EXHAUSTED, 2, 0, 2);
        Due.is("12: EXHAUSTED: cell(4)", 9, judge.cell(4));
        Due.is("12: EXHAUSTED: step(1)", 0, judge.step(1));
        Code.isAt("12: EXHAUSTED", judge, PathJudge.EXHAUSTED, 2, 0, 2);
        judge.start(0);
        Due.is("12: just the steps before", 12, judge.step(12));
        Due.is("13: the NEW is still to come", PathJudge.RUNNING, judge.status());
        Due.is("12: step(0)", 0, judge.step(0));
        Due.is("13: step(0) changes nothing", PathJudge.RUNNING, judge.status());
        Due.is("12: step(1)", 0, judge.step(1));
        Due.is("13: now it has come", PathJudge.EXHAUSTED, judge.status());
        PathJudge exact = Code.run(0, 64, 2, Code.NEW, 0, Code.NEW, 0, Code.SAME, 0, Code.STOP, 0);
        Code.isAt("12: as many as the pool has", exact, PathJudge.STOPPED, 3, 1, 2);
    }

    private static void cells() {
        PathJudge judge = Code.run(0, 7, 8, Code.PUSH, 41, Code.KEEP, 0, Code.PUSH, 42, Code.KEEP, 1, Code.NEW, 0,
                Code.PUSH, 43, Code.PUSH, 44, Code.STOP, 0);
        int[] due = {0, 43, 44, 0, 41, 42, 0, 0, 0, 0};
        for (int i = 0; i < due.length; i++) {
            Due.is("17: cell(" + i + ")", due[i], judge.cell(i));
        }
        for (int i : new int[] {Integer.MIN_VALUE, Integer.MIN_VALUE + 8, -8, -1, 16, 17, 100, Integer.MAX_VALUE}) {
            Due.is("17: cell(" + i + ")", 0, judge.cell(i));
        }
        PathJudge low = Code.run(0, 5, 8, Code.PUSH, 1, Code.PUSH, 2, Code.PUSH, 3, Code.POP, 0, Code.POP, 0,
                Code.STOP, 0);
        Due.is("15: height()", 1, low.height());
        Due.is("17: a dropped cell", 0, low.cell(1) + low.cell(2));
        PathJudge eight = new PathJudge(4, 8);
        eight.emit(Code.NEW, 0);
        eight.emit(Code.PUSH, 77);
        eight.emit(Code.WRITE, 0);
        eight.emit(Code.JUMP, 0);
        eight.start(0);
        Due.is("12: eight records", 32, eight.step(64));
        for (int r = 0; r < 8; r++) {
            Due.is("17: field " + r, 77, eight.cell(8 + r));
        }
        Due.is("17: cell(16)", 0, eight.cell(16));
        eight.start(0);
        Due.is("17: no record yet", 0, eight.cell(8));
        eight.step(1);
        Due.is("17: a new record's field is 0", 0, eight.cell(8));
        eight.patch(3, Code.JUMP, 0);
        Code.isIdle("17: reset", eight);
    }
}
