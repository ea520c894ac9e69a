import java.util.ArrayList;
import java.util.List;

/** Programs by the names of their operations, and what the tests of every part ask of an object. */
final class Code {
    static final int PUSH = 0;
    static final int NEW = 1;
    static final int POP = 2;
    static final int DUP = 3;
    static final int SWAP = 4;
    static final int ADD = 5;
    static final int READ = 6;
    static final int WRITE = 7;
    static final int LOAD = 8;
    static final int KEEP = 9;
    static final int JUMP = 10;
    static final int FORK = 11;
    static final int SAME = 12;
    static final int STOP = 13;

    static final int MIN = Integer.MIN_VALUE;
    static final int MAX = Integer.MAX_VALUE;

    /** No position, height or place: just outside, far outside, and such that a product with them wraps. */
    static final int[] OUTSIDE = {MIN, MIN + 1, -1 << 30, -65536, -17, -16, -5, -2, -1, 16, 17, 31, 32, 256, 65536,
        1 << 29, 1 << 30, MAX - 1, MAX};

    private static final List<String> NAMES = List.of("PUSH", "NEW", "POP", "DUP", "SWAP", "ADD", "READ", "WRITE",
            "LOAD", "KEEP", "JUMP", "FORK", "SAME", "STOP");

    private Code() {
    }

    static String name(int op) {
        return NAMES.get(op);
    }

    /** A program such as "PUSH 3, STOP"; an argument that is not given is 0. */
    static PathJudge program(int maxHeight, int pool, String text) {
        PathJudge judge = new PathJudge(maxHeight, pool);
        append(judge, text);
        return judge;
    }

    static void append(PathJudge judge, String text) {
        for (String instruction : text.split(", ")) {
            String[] parts = instruction.split(" ");
            int arg = parts.length > 1 ? Integer.parseInt(parts[1]) : 0;
            int p = judge.length();
            Due.is("emit of " + instruction, p, judge.emit(NAMES.indexOf(parts[0]), arg));
        }
    }

    /** The program on a stack of four cells and a pool of eight records, started. */
    static PathJudge started(int choices, String text) {
        PathJudge judge = program(4, 8, text);
        Due.is("start(" + choices + ") of " + text, true, judge.start(choices));
        return judge;
    }

    /** The program, started and stepped once by n. */
    static PathJudge run(int n, String text) {
        PathJudge judge = started(0, text);
        judge.step(n);
        return judge;
    }

    /** Three objects with the machine RUNNING, STOPPED and EXHAUSTED, all with cells, locals and records. */
    static PathJudge[] busy() {
        PathJudge running = run(6, "NEW, DUP, KEEP 0, PUSH 7, KEEP 1, DUP, PUSH 5, WRITE, READ, STOP");
        isAt("busy", running, PathJudge.RUNNING, 6, 2, 1);
        PathJudge stopped = run(64, "NEW, DUP, KEEP 0, PUSH 7, KEEP 1, DUP, PUSH 5, WRITE, READ, STOP");
        isAt("busy", stopped, PathJudge.STOPPED, 9, 1, 1);
        PathJudge exhausted = run(64, "NEW, DUP, KEEP 0, PUSH 7, KEEP 1, PUSH 5, WRITE, PUSH 9, NEW, POP, JUMP 8");
        isAt("busy", exhausted, PathJudge.EXHAUSTED, 8, 1, 8);
        return new PathJudge[] {running, stopped, exhausted};
    }

    static void isIdle(String when, PathJudge judge) {
        isAt(when, judge, PathJudge.IDLE, 0, 0, 0);
        for (int i = -1; i < 17; i++) {
            Due.is(when + ": cell(" + i + ")", 0, judge.cell(i));
        }
    }

    static void isAt(String when, PathJudge judge, int status, int position, int height, int records) {
        Due.is(when + ": status()", status, judge.status());
        Due.is(when + ": position()", position, judge.position());
        Due.is(when + ": height()", height, judge.height());
        Due.is(when + ": records()", records, judge.records());
    }

    /** The machine's stack, from the bottom up. */
    static void isStack(String when, PathJudge judge, int... cells) {
        Due.is(when + ": height()", cells.length, judge.height());
        for (int i = 0; i < 4; i++) {
            Due.is(when + ": cell(" + i + ")", i < cells.length ? cells[i] : 0, judge.cell(i));
        }
    }

    /** The one stack, from the bottom up, that the checker finds at p. */
    static void isKinds(String when, PathJudge judge, int p, int... kinds) {
        Due.is(when + ": heights(" + p + ")", 1 << kinds.length, judge.heights(p));
        for (int i = 0; i < kinds.length; i++) {
            Due.is(when + ": kind of cell " + i, kinds[i], judge.kinds(p, kinds.length, i));
        }
    }

    /** Answers of some hundred calls that change nothing: equal lists, equal objects as far as they tell. */
    static List<Integer> answers(PathJudge judge) {
        List<Integer> answers = new ArrayList<>(List.of(judge.length(), judge.verdict(), judge.status(),
                judge.position(), judge.height(), judge.records()));
        for (int i = 0; i < 16; i++) {
            answers.addAll(List.of(judge.cell(i), judge.faults(i), judge.heights(i), judge.distance(i),
                    judge.kinds(i, 0, 4), judge.kinds(i, 1, 0)));
        }
        return answers;
    }
}
