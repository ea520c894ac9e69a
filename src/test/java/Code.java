/** The operations by name, and objects that hold a program from the start. */
final class Code {
    static final int PUSH = 0;
    static final int NEW = 1;
    static final int POP = 2;
    static final int DUP = 3;
    static final int SWAP = 4;
    static final int ADD = 5;
    static final int READ = 6;
    static final int WRITE = 7;
    static final int LOAD = 8;
    static final int KEEP = 9;
    static final int JUMP = 10;
    static final int FORK = 11;
    static final int SAME = 12;
    static final int STOP = 13;

    private Code() {
    }

    /** A program given as op, arg, op, arg .. */
    static PathJudge program(int maxHeight, int pool, int... code) {
        PathJudge judge = new PathJudge(maxHeight, pool);
        for (int i = 0; i < code.length; i += 2) {
            Due.is("emit(" + code[i] + ", " + code[i + 1] + ")", i / 2, judge.emit(code[i], code[i + 1]));
        }
        return judge;
    }

    /** The program, started and stepped once by n. */
    static PathJudge run(int choices, int n, int pool, int... code) {
        PathJudge judge = program(4, pool, code);
        Due.is("start(" + choices + ")", true, judge.start(choices));
        judge.step(n);
        return judge;
    }

    static void isIdle(String when, PathJudge judge) {
        isAt(when, judge, PathJudge.IDLE, 0, 0, 0);
        for (int i = -1; i < 17; i++) {
            Due.is(when + ": cell(" + i + ")", 0, judge.cell(i));
        }
    }

    static void isAt(String when, PathJudge judge, int status, int position, int height, int records) {
        Due.is(when + ": status()", status, judge.status());
        Due.is(when + ": position()", position, judge.position());
        Due.is(when + ": height()", height, judge.height());
        Due.is(when + ": records()", records, judge.records());
    }
}
