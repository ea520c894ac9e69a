/** All promises at once: many programs and runs of calls, the same at every run, compared with Model. */
public final class ModelTest {
    private static final int[] ODD = {Integer.MIN_VALUE, -9, -2, -1, 16, 17, 65, 1000, Integer.MAX_VALUE};
    private static long seed = 20261115;
    private static int safePrograms = 0;

    private ModelTest() {
    }

    public static void main(String[] args) {
        for (int round = 0; round < 1500; round++) {
            program();
        }
        for (int round = 0; round < 1500; round++) {
            calls();
        }
        Due.holds("enough of the programs are SAFE: " + safePrograms, safePrograms > 500);
        Due.end();
    }

    /** A number from 0 to bound - 1, by a fixed rule. */
    private static int pick(int bound) {
        seed = seed * 6364136223846793005L + 1442695040888963407L;
        return (int) ((seed >>> 33) % bound);
    }

    private static int argFor(int op, int length) {
        if (op == Code.LOAD || op == Code.KEEP) {
            return pick(2);
        }
        if (op == Code.JUMP || op == Code.FORK) {
            return pick(12) == 0 ? ODD[pick(ODD.length)] : pick(length);
        }
        return pick(4) == 0 ? ODD[pick(ODD.length)] : pick(100) - 50;
    }

    private static int opOf() {
        return pick(3) == 0 ? Code.PUSH + pick(2) * Code.FORK : pick(14);
    }

    /** Replaces an instruction that has a fault, so that some programs become SAFE. */
    private static void mend(Model model) {
        for (int tries = 0; tries < 120 && model.verdict() == PathJudge.UNSAFE; tries++) {
            int p = pick(model.length());
            if (model.faults(p) != 0) {
                int op = pick(4) == 0 ? Code.STOP : opOf();
                model.patch(p, op, argFor(op, model.length()));
            }
        }
    }

    private static void program() {
        int maxHeight = 1 + pick(4);
        int pool = 1 + pick(8);
        int length = 1 + pick(16);
        Model model = new Model(maxHeight, pool);
        for (int p = 0; p < length; p++) {
            int op = opOf();
            model.emit(op, argFor(op, length));
        }
        if (pick(4) > 0) {
            mend(model);
        }
        compareFindings(copy(model, maxHeight, pool), model);
        compareKinds(copy(model, maxHeight, pool), model);
        if (model.verdict() == PathJudge.SAFE) {
            safePrograms++;
            compareRun(copy(model, maxHeight, pool), model);
        }
    }

    private static PathJudge copy(Model model, int maxHeight, int pool) {
        PathJudge judge = new PathJudge(maxHeight, pool);
        for (int p = 0; p < model.length(); p++) {
            judge.emit(model.instruction(p)[0], model.instruction(p)[1]);
        }
        return judge;
    }

    private static void compareFindings(PathJudge judge, Model model) {
        Due.is("verdict()", model.verdict(), judge.verdict());
        for (int p = -1; p <= 16; p++) {
            Due.is("faults(" + p + ")", model.faults(p), judge.faults(p));
            Due.is("heights(" + p + ")", model.heights(p), judge.heights(p));
            Due.is("distance(" + p + ")", model.distance(p), judge.distance(p));
        }
    }

    private static void compareKinds(PathJudge judge, Model model) {
        for (int p = 0; p < model.length(); p++) {
            for (int h = 0; h <= 4; h++) {
                for (int place = 0; place < 6; place++) {
                    Due.is("kinds(" + p + ", " + h + ", " + place + ")", model.kinds(p, h, place),
                            judge.kinds(p, h, place));
                }
            }
        }
    }

    private static void compareRun(PathJudge judge, Model model) {
        for (int start = 0; start < 3; start++) {
            int choices = pick(1 << 16) << 16 ^ pick(1 << 16);
            Due.is("start(" + choices + ")", model.start(choices), judge.start(choices));
            for (int i = 0; i < 5; i++) {
                int n = pick(4) == 0 ? 64 : pick(9);
                Due.is("step(" + n + ")", model.step(n), judge.step(n));
                compareMachine(judge, model);
            }
        }
    }

    private static void compareMachine(PathJudge judge, Model model) {
        Due.is("status()", model.status(), judge.status());
        Due.is("position()", model.position(), judge.position());
        Due.is("height()", model.height(), judge.height());
        Due.is("records()", model.records(), judge.records());
        for (int i = -1; i <= 16; i++) {
            Due.is("cell(" + i + ")", model.cell(i), judge.cell(i));
        }
    }

    /** 512 calls of every sort, wrong arguments among them, on one object. */
    private static void calls() {
        int maxHeight = pick(7) - 1;
        int pool = pick(12) - 1;
        PathJudge judge = new PathJudge(maxHeight, pool);
        Model model = new Model(maxHeight, pool);
        for (int call = 0; call < 512; call++) {
            int sort = pick(40);
            if (sort < 6) {
                changeBoth(judge, model);
            } else if (sort < 20) {
                askChecker(judge, model);
            } else {
                askMachine(judge, model);
            }
        }
    }

    private static void changeBoth(PathJudge judge, Model model) {
        int op = pick(20) == 0 ? ODD[pick(ODD.length)] : opOf();
        int arg = pick(20) == 0 ? ODD[pick(ODD.length)] : argFor(op, model.length() + 1);
        int p = oddOr(model.length() + 1);
        int sort = pick(40);
        if (sort == 0) {
            model.clear();
            judge.clear();
        } else if (sort < 12) {
            Due.is("emit(" + op + ", " + arg + ")", model.emit(op, arg), judge.emit(op, arg));
        } else {
            int faulty = p;
            for (int q = 0; q < model.length() && pick(3) > 0; q++) {
                faulty = model.faults(q) != 0 ? q : faulty;
            }
            Due.is("patch(" + faulty + ", " + op + ", " + arg + ")", model.patch(faulty, op, arg),
                    judge.patch(faulty, op, arg));
        }
    }

    private static int oddOr(int bound) {
        return pick(12) == 0 ? ODD[pick(ODD.length)] : pick(bound);
    }

    private static void askChecker(PathJudge judge, Model model) {
        int p = oddOr(model.length() + 1);
        int h = oddOr(6);
        int place = oddOr(8);
        switch (pick(5)) {
            case 0:
                Due.is("verdict()", model.verdict(), judge.verdict());
                break;
            case 1:
                Due.is("faults(" + p + ")", model.faults(p), judge.faults(p));
                break;
            case 2:
                Due.is("heights(" + p + ")", model.heights(p), judge.heights(p));
                break;
            case 3:
                Due.is("distance(" + p + ")", model.distance(p), judge.distance(p));
                break;
            default:
                Due.is("kinds(" + p + ", " + h + ", " + place + ")", model.kinds(p, h, place),
                        judge.kinds(p, h, place));
                break;
        }
    }

    private static void askMachine(PathJudge judge, Model model) {
        int n = oddOr(8);
        int i = oddOr(17);
        int choices = pick(2) == 0 ? pick(32) : ODD[pick(ODD.length)];
        switch (pick(9)) {
            case 0:
                Due.is("start(" + choices + ")", model.start(choices), judge.start(choices));
                break;
            case 1:
            case 2:
                Due.is("step(" + n + ")", model.step(n), judge.step(n));
                break;
            case 3:
                Due.is("status()", model.status(), judge.status());
                break;
            case 4:
                Due.is("position()", model.position(), judge.position());
                break;
            case 5:
                Due.is("height()", model.height(), judge.height());
                break;
            case 6:
                Due.is("records()", model.records(), judge.records());
                break;
            case 7:
                Due.is("length()", model.length(), judge.length());
                break;
            default:
                Due.is("cell(" + i + ")", model.cell(i), judge.cell(i));
                break;
        }
    }
}
