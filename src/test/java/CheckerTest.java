/** Promises 6 to 10: what the checker finds. */
public final class CheckerTest {
    private static final int[] FAR = {Integer.MIN_VALUE, -1, 16, 17, Integer.MAX_VALUE};
    private static final int N = PathJudge.NUMBER;
    private static final int R = PathJudge.RECORD;
    private static final int U = PathJudge.UNSET;

    private CheckerTest() {
    }

    public static void main(String[] args) {
        verdicts();
        under();
        over();
        underComesBeforeOver();
        kindFaults();
        kindFaultGoesOn();
        leaves();
        faultsAddUp();
        unreachedHasNoFault();
        heights();
        kindsMove();
        kindsMeet();
        kindsOfNeighbours();
        kindsOfOtherNumbers();
        heightsAreKeptApart();
        distances();
        everyKindEverywhere();
        Due.end();
    }

    private static int faultOf(int maxHeight, int p, int... code) {
        return Code.program(maxHeight, 1, code).faults(p);
    }

    private static void verdicts() {
        Due.is("6: empty", PathJudge.EMPTY, new PathJudge(1, 1).verdict());
        Due.is("6: safe", PathJudge.SAFE, Code.program(1, 1, Code.PUSH, 0, Code.STOP, 0).verdict());
        Due.is("6: loop", PathJudge.SAFE, Code.program(1, 1, Code.JUMP, 0).verdict());
        Due.is("6: unsafe", PathJudge.UNSAFE, Code.program(1, 1, Code.STOP, 0).verdict());
        Due.is("6: only LEAVES", PathJudge.UNSAFE, Code.program(1, 1, Code.PUSH, 0).verdict());
        PathJudge last = new PathJudge(1, 1);
        for (int p = 0; p < 15; p++) {
            last.emit(Code.FORK, p + 1);
        }
        last.emit(Code.POP, 0);
        Due.is("6: a fault at 15 only", PathJudge.UNSAFE, last.verdict());
        Due.is("6: a fault at 15 only", PathJudge.UNDER, last.faults(15));
    }

    private static void under() {
        int[] needs = {0, 0, 1, 1, 2, 2, 1, 2, 0, 1, 0, 0, 2, 1};
        for (int op = 0; op < needs.length; op++) {
            int onNone = faultOf(4, 0, op, 0, Code.JUMP, 1);
            int onOne = faultOf(4, 1, Code.PUSH, 0, op, 0, Code.JUMP, 2);
            int onTwo = faultOf(4, 2, Code.PUSH, 0, Code.PUSH, 0, op, 0, Code.JUMP, 3);
            Due.is("7: UNDER of " + op + " on 0", needs[op] > 0, (onNone & PathJudge.UNDER) != 0);
            Due.is("7: UNDER of " + op + " on 1", needs[op] > 1, (onOne & PathJudge.UNDER) != 0);
            Due.is("7: UNDER of " + op + " on 2", false, (onTwo & PathJudge.UNDER) != 0);
        }
        PathJudge judge = Code.program(4, 1, Code.ADD, 0, Code.STOP, 0);
        Due.is("7: UNDER alone", PathJudge.UNDER, judge.faults(0));
        Due.is("7: nothing further after UNDER", -1, judge.distance(1));
        Due.is("7: nothing further after UNDER", 0, judge.faults(1));
        Due.is("7: UNDER hides LEAVES", PathJudge.UNDER, faultOf(4, 0, Code.POP, 0));
        Due.is("7: UNDER hides KIND", PathJudge.UNDER, faultOf(4, 1, Code.NEW, 0, Code.ADD, 0, Code.JUMP, 2));
    }

    private static void over() {
        for (int op = 0; op < 14; op++) {
            boolean grows = op == Code.PUSH || op == Code.NEW || op == Code.DUP || op == Code.LOAD;
            for (int max = 1; max <= 4; max++) {
                PathJudge judge = new PathJudge(max, 1);
                for (int i = 0; i < max - 1; i++) {
                    judge.emit(Code.PUSH, 0);
                }
                judge.emit(Code.PUSH, 0);
                judge.emit(op, 1);
                judge.emit(Code.JUMP, max + 1);
                String what = "7: OVER of " + op + " at " + max;
                Due.is(what, grows, (judge.faults(max) & PathJudge.OVER) != 0);
                if (grows) {
                    Due.is(what, PathJudge.OVER, judge.faults(max));
                    Due.is(what + ": nothing further", -1, judge.distance(max + 1));
                    judge.patch(max - 1, Code.JUMP, max);
                    int less = op == Code.DUP && max == 1 ? PathJudge.UNDER : 0;
                    Due.is(what + " less one", less, judge.faults(max));
                }
            }
        }
        Due.is("7: OVER hides LEAVES", PathJudge.OVER, faultOf(1, 1, Code.PUSH, 0, Code.PUSH, 0));
    }

    private static void underComesBeforeOver() {
        Due.is("7: DUP on nothing", PathJudge.UNDER, faultOf(1, 0, Code.DUP, 0));
        Due.is("7: DUP on a full stack", PathJudge.OVER, faultOf(1, 1, Code.PUSH, 0, Code.DUP, 0));
    }

    /** The local 0 is never set, so that LOAD pushes UNSET. */
    private static void kindFaults() {
        int[] pushes = {Code.PUSH, Code.NEW, Code.LOAD};
        int[] kinds = {N, R, U};
        for (int op = 0; op < 14; op++) {
            for (int i = 0; i < 3; i++) {
                for (int j = 0; j < 3; j++) {
                    int below = kinds[i];
                    int top = kinds[j];
                    boolean fits = true;
                    if (op == Code.ADD) {
                        fits = below == N && top == N;
                    } else if (op == Code.READ) {
                        fits = top == R;
                    } else if (op == Code.WRITE) {
                        fits = below == R && top == N;
                    } else if (op == Code.SAME) {
                        fits = below == R && top == R;
                    } else if (op == Code.STOP) {
                        fits = top == N;
                    }
                    int got = faultOf(4, 2, pushes[i], 0, pushes[j], 0, op, 0, Code.JUMP, 3);
                    Due.is("7: KIND of " + op + " on " + below + ", " + top, fits ? 0 : PathJudge.KIND, got);
                }
            }
        }
    }

    private static void kindFaultGoesOn() {
        for (int op : new int[] {Code.ADD, Code.SAME, Code.READ}) {
            PathJudge judge = Code.program(4, 1, Code.LOAD, 0, Code.LOAD, 1, op, 0, Code.JUMP, 3);
            int h = op == Code.READ ? 2 : 1;
            Due.is("7: faults(2) of " + op, PathJudge.KIND, judge.faults(2));
            Due.is("8: heights(3) of " + op, 1 << h, judge.heights(3));
            Due.is("9: kinds(3) of " + op, N, judge.kinds(3, h, h - 1));
        }
        PathJudge write = Code.program(4, 1, Code.NEW, 0, Code.NEW, 0, Code.WRITE, 0, Code.JUMP, 3);
        Due.is("7: WRITE", PathJudge.KIND, write.faults(2));
        Due.is("8: WRITE", 1, write.heights(3));
        Due.is("7: STOP", PathJudge.KIND, faultOf(4, 1, Code.NEW, 0, Code.STOP, 0, Code.POP, 0));
        Due.is("10: STOP", -1, Code.program(4, 1, Code.NEW, 0, Code.STOP, 0, Code.POP, 0).distance(2));
        Due.is("7: KIND and LEAVES", PathJudge.KIND + PathJudge.LEAVES,
                faultOf(4, 1, Code.PUSH, 0, Code.READ, 0));
    }

    private static void leaves() {
        int[] targets = {Integer.MIN_VALUE, -1, 3, 16, Integer.MAX_VALUE};
        for (int t : targets) {
            PathJudge jump = Code.program(4, 1, Code.PUSH, 0, Code.JUMP, t, Code.STOP, 0);
            Due.is("7: JUMP " + t, PathJudge.LEAVES, jump.faults(1));
            Due.is("10: JUMP " + t, -1, jump.distance(2));
            PathJudge fork = Code.program(4, 1, Code.PUSH, 0, Code.FORK, t, Code.STOP, 0);
            Due.is("7: FORK " + t, PathJudge.LEAVES, fork.faults(1));
            Due.is("10: FORK " + t, 2, fork.distance(2));
            Due.is("7: the others", 0, fork.faults(0) + fork.faults(2));
        }
        Due.is("7: the last position", 0, faultOf(4, 1, Code.PUSH, 0, Code.JUMP, 2, Code.STOP, 0));
        PathJudge end = Code.program(4, 1, Code.FORK, 0);
        Due.is("7: FORK at the end", PathJudge.LEAVES, end.faults(0));
        Due.is("7: PUSH at the end", PathJudge.LEAVES, faultOf(4, 0, Code.PUSH, 0));
        Due.is("7: JUMP at the end", 0, faultOf(4, 0, Code.JUMP, 0));
        Due.is("7: STOP at the end", 0, faultOf(4, 1, Code.PUSH, 0, Code.STOP, 0));
        PathJudge grown = Code.program(4, 1, Code.PUSH, 0, Code.FORK, 3, Code.STOP, 0);
        grown.emit(Code.STOP, 0);
        Due.is("7: a position that came later", 0, grown.faults(1));
        PathJudge full = new PathJudge(4, 1);
        for (int p = 0; p < 16; p++) {
            full.emit(Code.FORK, p);
        }
        Due.is("7: position 16", PathJudge.LEAVES, full.faults(15));
        Due.is("7: position 15", 0, full.faults(14));
    }

    /** Position 2 is reached with no cell, with a record and, round and round, with more. */
    private static void faultsAddUp() {
        PathJudge judge = Code.program(2, 1, Code.FORK, 2, Code.LOAD, 0, Code.DUP, 0, Code.READ, 0, Code.FORK, 2);
        Due.is("7: faults(2)", PathJudge.UNDER + PathJudge.OVER, judge.faults(2));
        Due.is("7: faults(3)", PathJudge.KIND, judge.faults(3));
        Due.is("7: faults(4)", PathJudge.LEAVES, judge.faults(4));
        PathJudge all = Code.program(1, 1, Code.FORK, 2, Code.PUSH, 0, Code.READ, 0);
        Due.is("7: three at once", PathJudge.UNDER + PathJudge.KIND + PathJudge.LEAVES, all.faults(2));
        for (int p : FAR) {
            Due.is("7: faults(" + p + ")", 0, all.faults(p));
        }
        Due.is("7: faults(3)", 0, all.faults(3));
    }

    private static void unreachedHasNoFault() {
        PathJudge judge = Code.program(1, 1, Code.JUMP, 2, Code.POP, 0, Code.JUMP, 0);
        Due.is("6: a POP that is not reached", PathJudge.SAFE, judge.verdict());
        Due.is("7: a POP that is not reached", 0, judge.faults(1));
        Due.is("8: a POP that is not reached", 0, judge.heights(1));
        Due.is("9: a POP that is not reached", 0, judge.kinds(1, 0, 4));
        Due.is("10: a POP that is not reached", -1, judge.distance(1));
    }

    private static void heights() {
        PathJudge judge = Code.program(4, 1, Code.PUSH, 0, Code.FORK, 4, Code.PUSH, 0, Code.PUSH, 0, Code.STOP, 0);
        Due.is("8: heights(0)", 1, judge.heights(0));
        Due.is("8: heights(1)", 2, judge.heights(1));
        Due.is("8: heights(3)", 4, judge.heights(3));
        Due.is("8: heights(4)", 2 + 8, judge.heights(4));
        Due.is("8: heights(5)", 0, judge.heights(5));
        for (int p : FAR) {
            Due.is("8: heights(" + p + ")", 0, judge.heights(p));
        }
        judge.patch(1, Code.JUMP, 4);
        Due.is("8: patched: heights(3)", 0, judge.heights(3));
        Due.is("8: patched: heights(4)", 2, judge.heights(4));
        PathJudge round = Code.program(4, 1, Code.FORK, 3, Code.PUSH, 0, Code.JUMP, 0, Code.FORK, 5,
                Code.JUMP, 3, Code.POP, 0, Code.JUMP, 3);
        Due.is("8: up and down", 31, round.heights(3));
        Due.is("8: up and down", 15, round.heights(6));
    }

    private static void isStack(String what, PathJudge judge, int p, int... kinds) {
        Due.is(what + ": heights", 1 << kinds.length, judge.heights(p));
        for (int i = 0; i < kinds.length; i++) {
            Due.is(what + ": cell " + i, kinds[i], judge.kinds(p, kinds.length, i));
        }
    }

    private static void kindsMove() {
        PathJudge judge = Code.program(4, 1, Code.PUSH, 0, Code.NEW, 0, Code.LOAD, 1, Code.SWAP, 0, Code.DUP, 0,
                Code.KEEP, 1, Code.LOAD, 1, Code.POP, 0, Code.POP, 0, Code.KEEP, 0, Code.LOAD, 1, Code.STOP, 0);
        isStack("9: start", judge, 0);
        isStack("9: PUSH", judge, 1, N);
        isStack("9: NEW", judge, 2, N, R);
        isStack("9: LOAD", judge, 3, N, R, U);
        isStack("9: SWAP", judge, 4, N, U, R);
        isStack("9: DUP", judge, 5, N, U, R, R);
        isStack("9: KEEP", judge, 6, N, U, R);
        isStack("9: LOAD", judge, 7, N, U, R, R);
        isStack("9: POP", judge, 8, N, U, R);
        isStack("9: POP", judge, 9, N, U);
        isStack("9: KEEP of UNSET", judge, 10, N);
        isStack("9: LOAD", judge, 11, N, R);
        Due.is("9: local 0", U, judge.kinds(5, 4, 4));
        Due.is("9: local 1", U, judge.kinds(5, 4, 5));
        Due.is("9: local 1 after KEEP", R, judge.kinds(6, 3, 5));
        Due.is("9: local 0 after KEEP", U, judge.kinds(10, 1, 4));
        PathJudge unset = Code.program(4, 1, Code.PUSH, 0, Code.KEEP, 0, Code.LOAD, 1, Code.KEEP, 0, Code.JUMP, 4);
        Due.is("9: KEEP of a number", N, unset.kinds(2, 0, 4));
        Due.is("9: KEEP of UNSET", U, unset.kinds(4, 0, 4));
        Due.is("9: UNSET is no fault", PathJudge.SAFE, unset.verdict());
        PathJudge fresh = Code.program(4, 1, Code.NEW, 0, Code.PUSH, 0, Code.WRITE, 0, Code.NEW, 0, Code.NEW, 0,
                Code.SAME, 0, Code.NEW, 0, Code.READ, 0, Code.ADD, 0, Code.STOP, 0);
        isStack("9: WRITE", fresh, 3);
        isStack("9: SAME", fresh, 6, N);
        isStack("9: READ", fresh, 8, N, N);
        isStack("9: ADD", fresh, 9, N);
        Due.is("6: fresh", PathJudge.SAFE, fresh.verdict());
    }

    private static void kindsMeet() {
        PathJudge judge = Code.program(4, 1, Code.FORK, 4, Code.FORK, 6, Code.PUSH, 0, Code.JUMP, 7,
                Code.NEW, 0, Code.JUMP, 7, Code.LOAD, 1, Code.FORK, 9, Code.JUMP, 9, Code.KEEP, 0, Code.JUMP, 10);
        Due.is("9: three kinds", N + R + U, judge.kinds(7, 1, 0));
        Due.is("9: three kinds", N + R + U, judge.kinds(9, 1, 0));
        Due.is("9: three kinds in local 0", N + R + U, judge.kinds(10, 0, 4));
        Due.is("9: local 1", U, judge.kinds(10, 0, 5));
        PathJudge apart = Code.program(4, 1, Code.FORK, 3, Code.PUSH, 0, Code.JUMP, 5, Code.NEW, 0, Code.DUP, 0,
                Code.JUMP, 5);
        Due.is("8: two heights", 2 + 4, apart.heights(5));
        Due.is("9: height 1", N, apart.kinds(5, 1, 0));
        Due.is("9: height 2", R, apart.kinds(5, 2, 0));
        Due.is("9: height 2", R, apart.kinds(5, 2, 1));
        Due.is("9: height 3", 0, apart.kinds(5, 3, 0));
        Due.is("9: height 0", 0, apart.kinds(5, 0, 4));
    }

    /** Records at position 3 with four cells, numbers at position 4 with any: neither shows at the other. */
    private static void kindsOfNeighbours() {
        PathJudge judge = Code.program(4, 1, Code.FORK, 4, Code.NEW, 0, Code.DUP, 0, Code.FORK, 2, Code.PUSH, 0,
                Code.FORK, 4);
        for (int h = 0; h <= 4; h++) {
            Due.is("9: kinds(3, " + h + ", 0)", h < 2 ? 0 : R, judge.kinds(3, h, 0));
            Due.is("9: kinds(3, " + h + ", 4)", h < 2 ? 0 : U, judge.kinds(3, h, 4));
            Due.is("9: kinds(5, " + h + ", 0)", h < 1 ? 0 : h < 3 ? N : N + R, judge.kinds(5, h, 0));
            Due.is("9: kinds(5, " + h + ", 3)", h < 4 ? 0 : N, judge.kinds(5, h, 3));
        }
    }

    private static void kindsOfOtherNumbers() {
        PathJudge judge = Code.program(4, 1, Code.PUSH, 0, Code.PUSH, 0, Code.PUSH, 0, Code.PUSH, 0, Code.STOP, 0);
        for (int h = 0; h <= 4; h++) {
            for (int place = -2; place < 12; place++) {
                int want = place == 4 || place == 5 ? U : place >= 0 && place < h ? N : 0;
                Due.is("9: kinds(" + h + ", " + h + ", " + place + ")", want, judge.kinds(h, h, place));
                Due.is("9: another height", 0, judge.kinds(h, h + 1, place));
                Due.is("9: another height", 0, judge.kinds(h, h - 1, place));
            }
        }
        for (int far : FAR) {
            Due.is("9: p " + far, 0, judge.kinds(far, 0, 4));
            Due.is("9: h " + far, 0, judge.kinds(0, far, 4));
            Due.is("9: place " + far, 0, judge.kinds(0, 0, far));
        }
        Due.is("9: p = length()", 0, judge.kinds(5, 4, 0));
        Due.is("9: h 5", 0, judge.kinds(3, 5, 4));
        Due.is("9: h -1", 0, judge.kinds(1, -1, 4));
        Due.is("9: place 6", 0, judge.kinds(1, 1, 6));
    }

    private static void heightsAreKeptApart() {
        PathJudge judge = Code.program(4, 1, Code.FORK, 4, Code.NEW, 0, Code.PUSH, 0, Code.JUMP, 6,
                Code.PUSH, 0, Code.JUMP, 6, Code.FORK, 9, Code.WRITE, 0, Code.JUMP, 8, Code.STOP, 0);
        Due.is("7: STOP at both heights", 0, judge.faults(9));
        Due.is("7: WRITE at one height", PathJudge.UNDER, judge.faults(7));
        Due.is("8: WRITE at the other", 1, judge.heights(8));
        PathJudge pair = Code.program(4, 1, Code.FORK, 4, Code.PUSH, 0, Code.DUP, 0, Code.JUMP, 6,
                Code.NEW, 0, Code.DUP, 0, Code.KEEP, 0, Code.LOAD, 0, Code.JUMP, 8);
        Due.is("9: both kinds below", N + R, pair.kinds(8, 2, 0));
        Due.is("9: both kinds on top", N + R, pair.kinds(8, 2, 1));
        Due.is("6: both kinds", PathJudge.SAFE, pair.verdict());
        pair.patch(8, Code.ADD, 0);
        Due.is("7: ADD of two records", PathJudge.KIND + PathJudge.LEAVES, pair.faults(8));
    }

    private static void distances() {
        PathJudge judge = Code.program(4, 1, Code.FORK, 5, Code.PUSH, 0, Code.FORK, 4, Code.POP, 0, Code.FORK, 3,
                Code.PUSH, 0, Code.JUMP, 4, Code.STOP, 0);
        int[] want = {0, 1, 2, 3, 3, 1, 2, -1};
        for (int p = 0; p < want.length - 1; p++) {
            Due.is("10: distance(" + p + ")", want[p], judge.distance(p));
        }
        for (int p : FAR) {
            Due.is("10: distance(" + p + ")", -1, judge.distance(p));
        }
        Due.is("10: distance(length())", -1, judge.distance(8));
        PathJudge loop = Code.program(4, 1, Code.PUSH, 0, Code.POP, 0, Code.JUMP, 0);
        Due.is("10: back at 0", 0, loop.distance(0));
        Due.is("10: at 0 in another way", 0, Code.program(4, 1, Code.PUSH, 0, Code.FORK, 0).distance(0));
        // The short way to 3 ends at the POP of an empty stack, so 4 is first reached the long way.
        PathJudge longer = Code.program(4, 1, Code.FORK, 3, Code.PUSH, 0, Code.JUMP, 3, Code.POP, 0, Code.JUMP, 4);
        Due.is("10: the short way", 1, longer.distance(3));
        Due.is("10: the way of another situation", 4, longer.distance(4));
        // Only a situation with four cells falls to 6, so the loop runs four times first.
        PathJudge rounds = Code.program(4, 1, Code.PUSH, 0, Code.FORK, 0, Code.POP, 0, Code.POP, 0, Code.POP, 0,
                Code.POP, 0, Code.JUMP, 6);
        Due.is("10: four rounds", 4 * 2 + 4, rounds.distance(6));
        Due.is("10: three rounds", 3 * 2 + 3, rounds.distance(5));
    }

    /** A program that brings every kind into every place at every height, all at position 0. */
    private static void everyKindEverywhere() {
        PathJudge judge = Code.program(4, 1, Code.FORK, 9, Code.FORK, 4, Code.FORK, 6, Code.FORK, 8,
                Code.PUSH, 0, Code.JUMP, 0, Code.NEW, 0, Code.JUMP, 0, Code.LOAD, 0, Code.FORK, 13,
                Code.FORK, 12, Code.KEEP, 0, Code.KEEP, 1, Code.JUMP, 0);
        Due.is("8: every height", 31, judge.heights(0));
        for (int h = 0; h <= 4; h++) {
            for (int place = 0; place < 6; place++) {
                int want = place < h || place >= 4 ? N + R + U : 0;
                Due.is("9: every kind: kinds(0, " + h + ", " + place + ")", want, judge.kinds(0, h, place));
            }
        }
    }
}
