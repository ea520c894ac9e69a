/** Promises 6 to 10: what the checker answers. */
public final class CheckerTest {
    private static final int N = PathJudge.NUMBER;
    private static final int R = PathJudge.RECORD;
    private static final int U = PathJudge.UNSET;

    private CheckerTest() {
    }

    public static void main(String[] args) {
        Document.open("## Promise 6: verdict `int verdict()`:", "## Promise 7");
        Document.says("EMPTY when the program is empty;", CheckerTest::verdictEmpty);
        Document.says("else SAFE when no fault is noted at any position,", CheckerTest::verdictSafe);
        Document.says("else UNSAFE.", CheckerTest::verdictUnsafe);

        Document.open("## Promise 7: faults `int faults(int p)`:", "## Promise 8");
        Document.says("The faults noted at p, as the sum of their bits;", CheckerTest::faultsAddUp);
        Document.says("0 when there are none", CheckerTest::faultsOfNone);
        Document.says("or p is not 0 .. length() - 1.", CheckerTest::faultsElsewhere);

        Document.open("## Promise 8: heights `int heights(int p)`:", "## Promise 9");
        Document.says("The heights of the stacks of the reached situations at p: bit h is set when one of them has h"
                + " cells.", CheckerTest::heights);
        Document.says("0 when none is reached there", CheckerTest::heightsOfNone);
        Document.says("or p is not 0 .. length() - 1.", CheckerTest::heightsElsewhere);

        Document.open("## Promise 9: kinds `int kinds(int p, int h, int place)`:", "## Promise 10");
        Document.says("Over the reached situations at p whose stack has exactly h cells, the kinds found in one"
                + " place, as the sum of their bits.", CheckerTest::kindsAddUp);
        Document.says("place 0 .. h - 1 is a stack cell (0 the bottom);", CheckerTest::kindsOfCells);
        Document.says("place 4 is local 0, place 5 is local 1.", CheckerTest::kindsOfLocals);
        Document.says("0 when no such situation is reached,", CheckerTest::kindsOfNone);
        Document.says("or p, h or place is any other number.", CheckerTest::kindsElsewhere);

        Document.open("## Promise 10: distance `int distance(int p)`:", "## Promise 11");
        Document.says("The least number of instructions after which a situation at p is reached:",
                CheckerTest::distanceIsLeast);
        Document.says("0 for position 0 of a program that is not empty;", CheckerTest::distanceOfFirst);
        Document.says("else one more than the least number for a situation from which one at p is reached directly.",
                CheckerTest::distanceIsOneMore);
        Document.says("-1 when none is reached there", CheckerTest::distanceOfNone);
        Document.says("or p is not 0 .. length() - 1.", CheckerTest::distanceElsewhere);
        Document.end();
    }

    private static void verdictEmpty() {
        Due.is("new", PathJudge.EMPTY, new PathJudge(1, 1).verdict());
        PathJudge judge = Code.program(1, 1, "POP");
        judge.clear();
        Due.is("cleared when UNSAFE", PathJudge.EMPTY, judge.verdict());
        Code.append(judge, "JUMP 0");
        judge.clear();
        Due.is("cleared when SAFE", PathJudge.EMPTY, judge.verdict());
        judge.emit(14, 0);
        Due.is("after a refused emit", PathJudge.EMPTY, judge.verdict());
    }

    private static void verdictSafe() {
        Due.is("one instruction", PathJudge.SAFE, Code.program(1, 1, "JUMP 0").verdict());
        Due.is("sixteen", PathJudge.SAFE, Code.program(1, 1, "PUSH 0" + ", STOP".repeat(15)).verdict());
        Due.is("a full stack", PathJudge.SAFE, Code.program(1, 1, "PUSH 0, STOP").verdict());
        Due.is("a fault that is not reached", PathJudge.SAFE, Code.program(1, 1, "JUMP 0, POP").verdict());
        Due.is("more NEWs than the pool has", PathJudge.SAFE, Code.program(1, 1, "NEW, POP, JUMP 0").verdict());
        Due.is("UNSET that nothing uses", PathJudge.SAFE, Code.program(2, 1, "LOAD 0, PUSH 0, STOP").verdict());
        PathJudge mended = Code.program(1, 1, "POP, JUMP 1");
        mended.patch(0, Code.JUMP, 1);
        Due.is("a fault that was mended", PathJudge.SAFE, mended.verdict());
        mended.clear();
        Code.append(mended, "JUMP 0");
        Due.is("a fault that was cleared", PathJudge.SAFE, mended.verdict());
        PathJudge grown = Code.program(1, 1, "PUSH 0");
        Due.is("a program without its end", PathJudge.UNSAFE, grown.verdict());
        Code.append(grown, "STOP");
        Due.is("a program with its end", PathJudge.SAFE, grown.verdict());
    }

    private static void verdictUnsafe() {
        Due.is("UNDER alone", PathJudge.UNSAFE, Code.program(1, 1, "POP, JUMP 1").verdict());
        Due.is("OVER alone", PathJudge.UNSAFE, Code.program(1, 1, "PUSH 0, PUSH 0, STOP").verdict());
        Due.is("KIND alone", PathJudge.UNSAFE, Code.program(1, 1, "NEW, STOP").verdict());
        Due.is("LEAVES alone", PathJudge.UNSAFE, Code.program(1, 1, "PUSH 0").verdict());
        for (int p = 0; p < 16; p++) {
            PathJudge judge = Code.program(1, 1, "FORK 15, ".repeat(15) + "JUMP 15");
            Due.is("before", PathJudge.SAFE, judge.verdict());
            judge.patch(p, Code.POP, 0);
            Due.is("a fault at " + p + " alone", PathJudge.UNSAFE, judge.verdict());
        }
    }

    /** The position is reached with other heights and kinds by other ways, so that one after the other is noted. */
    private static void faultsAddUp() {
        int under = PathJudge.UNDER;
        int over = PathJudge.OVER;
        int kind = PathJudge.KIND;
        int leaves = PathJudge.LEAVES;
        Due.is("UNDER", under, Code.program(1, 1, "POP, JUMP 1").faults(0));
        Due.is("OVER", over, Code.program(1, 1, "PUSH 0, PUSH 0, STOP").faults(1));
        Due.is("KIND", kind, Code.program(1, 1, "NEW, STOP").faults(1));
        Due.is("LEAVES", leaves, Code.program(1, 1, "PUSH 0").faults(0));
        Due.is("UNDER, OVER", under + over, Code.program(1, 1, "FORK 2, PUSH 0, DUP, STOP").faults(2));
        Due.is("UNDER, KIND", under + kind, Code.program(1, 1, "FORK 2, NEW, STOP").faults(2));
        Due.is("UNDER, LEAVES", under + leaves, Code.program(1, 1, "FORK 2, NEW, POP").faults(2));
        Due.is("OVER, LEAVES", over + leaves, Code.program(1, 1, "FORK 2, NEW, NEW").faults(2));
        Due.is("KIND, LEAVES", kind + leaves, Code.program(1, 1, "PUSH 0, READ").faults(1));
        Due.is("UNDER, KIND, LEAVES", under + kind + leaves, Code.program(1, 1, "FORK 2, PUSH 0, READ").faults(2));
        PathJudge three = Code.program(2, 1, "FORK 4, FORK 3, PUSH 0, PUSH 0, DUP");
        Due.is("UNDER, OVER, LEAVES", under + over + leaves, three.faults(4));
        PathJudge twice = Code.program(4, 1, "FORK 2, FORK 2, POP, JUMP 3");
        Due.is("the same fault from two sides", under, twice.faults(2));
        PathJudge both = Code.program(4, 1, "FORK 9");
        Due.is("LEAVES on both ways of a FORK", leaves, both.faults(0));
    }

    private static void faultsOfNone() {
        PathJudge judge = Code.program(4, 1, "PUSH 0, JUMP 3, POP, POP, POP, JUMP 5");
        int[] want = {0, 0, 0, 0, PathJudge.UNDER, 0};
        for (int p = 0; p < want.length; p++) {
            Due.is("faults(" + p + ")", want[p], judge.faults(p));
        }
        PathJudge safe = Code.program(1, 1, "PUSH 0" + ", STOP".repeat(15));
        for (int p = 0; p < 16; p++) {
            Due.is("SAFE: faults(" + p + ")", 0, safe.faults(p));
        }
    }

    /** A program with a fault at each of 16 positions, then one that has only the first two of them. */
    private static void faultsElsewhere() {
        PathJudge judge = Code.program(1, 1, "FORK 99" + ", FORK 99".repeat(15));
        for (int p = 0; p < 16; p++) {
            Due.is("faults(" + p + ") of 16", PathJudge.LEAVES, judge.faults(p));
        }
        for (int p : Code.OUTSIDE) {
            Due.is("faults(" + p + ") of 16", 0, judge.faults(p));
        }
        judge.clear();
        Due.is("faults(0) of none", 0, judge.faults(0));
        Due.is("faults(15) of none", 0, judge.faults(15));
        Code.append(judge, "FORK 99, FORK 99");
        Due.is("faults(0) of 2", PathJudge.LEAVES, judge.faults(0));
        Due.is("faults(length() - 1)", PathJudge.LEAVES, judge.faults(1));
        for (int p = 2; p < 16; p++) {
            Due.is("faults(" + p + ") of 2", 0, judge.faults(p));
        }
        for (int p : Code.OUTSIDE) {
            Due.is("faults(" + p + ") of 2", 0, judge.faults(p));
        }
    }

    private static void heights() {
        PathJudge four = Code.program(4, 1, "PUSH 0, PUSH 0, PUSH 0, PUSH 0, STOP");
        for (int h = 0; h <= 4; h++) {
            Due.is("heights(" + h + ")", 1 << h, four.heights(h));
        }
        for (int max = 1; max <= 4; max++) {
            PathJudge all = Code.program(max, 1, "PUSH 0, JUMP 0");
            Due.is("every height to " + max, (2 << max) - 1, all.heights(0));
            Due.is("every height but none to " + max, (2 << max) - 2, all.heights(1));
        }
        PathJudge two = Code.program(4, 1, "PUSH 0, FORK 4, PUSH 0, PUSH 0, STOP");
        Due.is("one and three", 2 + 8, two.heights(4));
        two.patch(1, Code.JUMP, 4);
        Due.is("one", 2, two.heights(4));
        PathJudge round = Code.program(4, 1, "FORK 3, PUSH 0, JUMP 0, FORK 5, JUMP 3, POP, JUMP 3");
        Due.is("up and down: before POP", 31, round.heights(5));
        Due.is("up and down: after POP", 15, round.heights(6));
        PathJudge last = Code.program(4, 1, "PUSH 0, JUMP 15" + ", POP".repeat(13) + ", STOP");
        Due.is("the last of 16", 2, last.heights(15));
    }

    private static void heightsOfNone() {
        PathJudge judge = Code.program(4, 1, "JUMP 2, POP, POP, STOP");
        Due.is("never a next position", 0, judge.heights(1));
        Due.is("after UNDER", 0, judge.heights(3));
        Due.is("after OVER", 0, Code.program(1, 1, "PUSH 0, PUSH 0, STOP").heights(2));
        Due.is("after STOP", 0, Code.program(1, 1, "PUSH 0, STOP, STOP").heights(2));
        PathJudge patched = Code.program(4, 1, "PUSH 0, PUSH 0, STOP");
        Due.is("before the patch", 4, patched.heights(2));
        patched.patch(1, Code.JUMP, 0);
        Due.is("no longer", 0, patched.heights(2));
    }

    private static void heightsElsewhere() {
        PathJudge judge = Code.program(4, 1, "FORK 0" + ", FORK 0".repeat(15));
        for (int p = 0; p < 16; p++) {
            Due.is("heights(" + p + ") of 16", 1, judge.heights(p));
        }
        for (int p : Code.OUTSIDE) {
            Due.is("heights(" + p + ") of 16", 0, judge.heights(p));
        }
        judge.clear();
        Due.is("heights(0) of none", 0, judge.heights(0));
        Code.append(judge, "FORK 0, FORK 0");
        Due.is("heights(length() - 1)", 1, judge.heights(1));
        for (int p = 2; p < 16; p++) {
            Due.is("heights(" + p + ") of 2", 0, judge.heights(p));
        }
    }

    private static void kindsAddUp() {
        String three = "FORK 4, FORK 6, PUSH 0, JUMP 7, NEW, JUMP 7, LOAD 1, ";
        PathJudge judge = Code.program(4, 1, three + "FORK 9, JUMP 9, KEEP 0, JUMP 10");
        Due.is("three kinds of a cell", N + R + U, judge.kinds(7, 1, 0));
        Due.is("three kinds of a local", N + R + U, judge.kinds(10, 0, 4));
        Due.is("one kind of a local", U, judge.kinds(10, 0, 5));
        PathJudge two = Code.program(4, 1, "FORK 3, PUSH 0, JUMP 4, NEW, JUMP 4");
        Due.is("two kinds", N + R, two.kinds(4, 1, 0));
        PathJudge height = Code.program(4, 1, "FORK 3, PUSH 0, JUMP 5, NEW, DUP, JUMP 5");
        Due.is("exactly one cell", N, height.kinds(5, 1, 0));
        Due.is("exactly two cells", R, height.kinds(5, 2, 0));
        PathJudge twice = Code.program(4, 1, "FORK 3, PUSH 0, JUMP 4, PUSH 1, JUMP 4");
        Due.is("the same kind by two ways", N, twice.kinds(4, 1, 0));
        everyKindEverywhere();
    }

    /** A program that brings every kind into every place at every height, all at position 0. */
    private static void everyKindEverywhere() {
        PathJudge judge = Code.program(4, 1, "FORK 9, FORK 4, FORK 6, FORK 8, PUSH 0, JUMP 0, NEW, JUMP 0, LOAD 0,"
                + " FORK 13, FORK 12, KEEP 0, KEEP 1, JUMP 0");
        for (int h = 0; h <= 4; h++) {
            for (int place = 0; place < 6; place++) {
                int want = place < h || place >= 4 ? N + R + U : 0;
                Due.is("every kind: kinds(0, " + h + ", " + place + ")", want, judge.kinds(0, h, place));
            }
        }
    }

    private static void kindsOfCells() {
        PathJudge judge = Code.program(4, 1, "PUSH 0, NEW, LOAD 1, NEW, JUMP 4");
        int[] kinds = {N, R, U, R};
        for (int h = 0; h <= 4; h++) {
            for (int place = 0; place < 4; place++) {
                int want = place < h ? kinds[place] : 0;
                Due.is("kinds(" + h + ", " + h + ", " + place + ")", want, judge.kinds(h, h, place));
            }
        }
    }

    private static void kindsOfLocals() {
        PathJudge judge = Code.program(4, 1, "PUSH 0, KEEP 0, NEW, KEEP 1, PUSH 0, PUSH 0, PUSH 0, PUSH 0, STOP");
        int[] height = {0, 1, 0, 1, 0, 1, 2, 3, 4};
        for (int p = 0; p < height.length; p++) {
            Due.is("local 0 at " + p, p < 2 ? U : N, judge.kinds(p, height[p], 4));
            Due.is("local 1 at " + p, p < 4 ? U : R, judge.kinds(p, height[p], 5));
        }
    }

    private static void kindsOfNone() {
        PathJudge judge = Code.program(4, 1, "PUSH 0, JUMP 3, POP, PUSH 0, STOP, STOP");
        for (int place = 0; place < 6; place++) {
            Due.is("never a next position, place " + place, 0, judge.kinds(2, 1, place));
            Due.is("after STOP, place " + place, 0, judge.kinds(5, 2, place));
            for (int h = 0; h <= 4; h++) {
                boolean there = h == 1 && (place == 0 || place >= 4);
                int want = !there ? 0 : place == 0 ? N : U;
                Due.is("another height: kinds(3, " + h + ", " + place + ")", want, judge.kinds(3, h, place));
            }
        }
        PathJudge patched = Code.program(4, 1, "NEW, NEW, JUMP 2");
        patched.patch(1, Code.JUMP, 2);
        Due.is("no longer", 0, patched.kinds(2, 2, 0));
        Due.is("instead", R, patched.kinds(2, 1, 0));
        PathJudge low = Code.program(2, 1, "PUSH 0, JUMP 0");
        Due.is("the greatest height", N, low.kinds(0, 2, 1));
        Due.is("above the greatest height", 0, low.kinds(0, 3, 4));
    }

    /** Every height is at position 0 and from 3 on, so that whatever place is next to another has some kind. */
    private static PathJudge dense() {
        return Code.program(4, 1, "FORK 3, PUSH 0, JUMP 0" + ", FORK 0".repeat(12) + ", JUMP 0");
    }

    private static void kindsElsewhere() {
        PathJudge judge = dense();
        for (int far : Code.OUTSIDE) {
            Due.is("p " + far, 0, judge.kinds(far, 0, 4));
            Due.is("p " + far, 0, judge.kinds(far, 4, 0));
            Due.is("h " + far, 0, judge.kinds(4, far, 4));
            Due.is("h " + far, 0, judge.kinds(4, far, 0));
            Due.is("place " + far, 0, judge.kinds(4, 4, far));
            Due.is("place " + far, 0, judge.kinds(4, 0, far));
            Due.is("all three " + far, 0, judge.kinds(far, far, far));
        }
        for (int h = 0; h <= 4; h++) {
            for (int place = -6; place < 16; place++) {
                boolean there = place >= 0 && place < h || place == 4 || place == 5;
                int want = !there ? 0 : place < 4 ? N : U;
                Due.is("kinds(5, " + h + ", " + place + ")", want, judge.kinds(5, h, place));
            }
        }
        PathJudge other = dense();
        for (int place = 0; place < 6; place++) {
            for (int p : new int[] {0, 4, 15}) {
                Due.is("h -1, place " + place + " at " + p, 0, other.kinds(p, -1, place));
                Due.is("h 5, place " + place + " at " + p, 0, other.kinds(p, 5, place));
                Due.is("h 6, place " + place + " at " + p, 0, other.kinds(p, 6, place));
            }
            Due.is("p -1, place " + place, 0, other.kinds(-1, 4, place));
            Due.is("p 16, place " + place, 0, other.kinds(16, 4, place));
        }
        other.clear();
        Due.is("p 0 of none", 0, other.kinds(0, 0, 4));
        Code.append(other, "FORK 0, FORK 0, FORK 0");
        Due.is("p 2 of 3", U, other.kinds(2, 0, 4));
        for (int p = 3; p < 16; p++) {
            Due.is("p " + p + " of 3", 0, other.kinds(p, 0, 4));
            Due.is("p " + p + " of 3", 0, other.kinds(p, 4, 3));
        }
    }

    private static void distanceIsLeast() {
        PathJudge judge = Code.program(4, 1, "FORK 5, PUSH 0, FORK 4, POP, FORK 3, PUSH 0, JUMP 4, STOP");
        int[] want = {0, 1, 2, 3, 3, 1, 2};
        for (int p = 0; p < want.length; p++) {
            Due.is("distance(" + p + ")", want[p], judge.distance(p));
        }
        PathJudge line = Code.program(4, 1, "PUSH 0, PUSH 0" + ", SWAP".repeat(13) + ", STOP");
        Due.is("the last of 16", 15, line.distance(15));
        line.patch(1, Code.FORK, 15);
        Due.is("a shorter way", 2, line.distance(15));
        line.patch(1, Code.PUSH, 0);
        Due.is("the longer way again", 15, line.distance(15));
    }

    private static void distanceOfFirst() {
        Due.is("one instruction", 0, Code.program(4, 1, "POP").distance(0));
        Due.is("back at 0", 0, Code.program(4, 1, "PUSH 0, POP, JUMP 0").distance(0));
        Due.is("back at 0 with other kinds", 0, Code.program(4, 1, "PUSH 0, FORK 0").distance(0));
        Due.is("a program that is empty", -1, new PathJudge(4, 1).distance(0));
    }

    private static void distanceIsOneMore() {
        PathJudge ops = Code.program(4, 1, "NEW, DUP, SAME, KEEP 0, LOAD 0, PUSH 1, ADD, NEW, READ, SWAP, JUMP 11,"
                + " FORK 12, POP, STOP");
        for (int p = 0; p < 14; p++) {
            Due.is("distance(" + p + ")", p, ops.distance(p));
        }
        // The short way to 3 ends at the POP of an empty stack, so 4 is first reached the long way.
        PathJudge longer = Code.program(4, 1, "FORK 3, PUSH 0, JUMP 3, POP, JUMP 4");
        Due.is("the short way", 1, longer.distance(3));
        Due.is("the way of another situation", 4, longer.distance(4));
        // Only a situation with four cells falls to 6, so the loop runs four times first.
        PathJudge rounds = Code.program(4, 1, "PUSH 0, FORK 0, POP, POP, POP, POP, JUMP 6");
        Due.is("four rounds", 4 * 2 + 4, rounds.distance(6));
        Due.is("three rounds", 3 * 2 + 3, rounds.distance(5));
        // Up four times, down three times and a bit: more steps than there are positions.
        PathJudge far = Code.program(4, 1, "JUMP 1, JUMP 2, JUMP 3, JUMP 4, JUMP 5, JUMP 6, JUMP 7, JUMP 8, PUSH 0,"
                + " FORK 0, POP, POP, POP, POP, JUMP 14");
        Due.is("more steps than positions", 4 * 10 + 4, far.distance(14));
    }

    private static void distanceOfNone() {
        PathJudge judge = Code.program(4, 1, "JUMP 2, POP, POP, STOP");
        Due.is("never a next position", -1, judge.distance(1));
        Due.is("after UNDER", -1, judge.distance(3));
        Due.is("after OVER", -1, Code.program(1, 1, "PUSH 0, PUSH 0, STOP").distance(2));
        Due.is("after STOP", -1, Code.program(1, 1, "PUSH 0, STOP, STOP").distance(2));
        PathJudge patched = Code.program(4, 1, "PUSH 0, PUSH 0, STOP");
        Due.is("before the patch", 2, patched.distance(2));
        patched.patch(1, Code.JUMP, 0);
        Due.is("no longer", -1, patched.distance(2));
    }

    private static void distanceElsewhere() {
        PathJudge judge = Code.program(4, 1, "FORK 0" + ", FORK 0".repeat(15));
        for (int p = 0; p < 16; p++) {
            Due.is("distance(" + p + ") of 16", p, judge.distance(p));
        }
        for (int p : Code.OUTSIDE) {
            Due.is("distance(" + p + ") of 16", -1, judge.distance(p));
        }
        judge.clear();
        Due.is("distance(0) of none", -1, judge.distance(0));
        Due.is("distance(15) of none", -1, judge.distance(15));
        Code.append(judge, "FORK 0, FORK 0");
        Due.is("distance(length() - 1)", 1, judge.distance(1));
        for (int p = 2; p < 16; p++) {
            Due.is("distance(" + p + ") of 2", -1, judge.distance(p));
        }
    }
}
