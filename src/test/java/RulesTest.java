/** The checker's rules 1 to 5, sentence by sentence. */
public final class RulesTest {
    private static final int N = PathJudge.NUMBER;
    private static final int R = PathJudge.RECORD;
    private static final int U = PathJudge.UNSET;

    /** What pushes a cell of each kind while no local is set. */
    private static final String[] PUSHES = {"PUSH 3", "NEW", "LOAD 1"};
    private static final int[] KINDS = {N, R, U};

    private RulesTest() {
    }

    public static void main(String[] args) {
        Document.open("THE CHECKER.", "1. Cells needed");
        Document.says("Every stack cell and every local has a KIND: NUMBER, RECORD or UNSET.", RulesTest::threeKinds);
        Document.says("A SITUATION is a position p with 0 <= p < length(), the kinds of the stack's cells from the"
                + " bottom up, and the kinds of the two locals.", RulesTest::situationsApart);
        Document.says("When the program is not empty, the situation with position 0, an empty stack and both locals"
                + " UNSET is reached.", RulesTest::firstSituation);
        Document.says("From a reached situation at p these things happen, in this order:", RulesTest::order);

        Document.open("1. Cells needed on the stack:", "2. PUSH, NEW, DUP and LOAD need");
        Document.says("POP, DUP, READ, KEEP, STOP need 1;", () -> needs(1, "POP, DUP, READ, KEEP, STOP"));
        Document.says("SWAP, ADD, WRITE, SAME need 2;", () -> needs(2, "SWAP, ADD, WRITE, SAME"));
        Document.says("the others 0.", () -> needs(0, "PUSH, NEW, LOAD, JUMP, FORK"));
        Document.says("If fewer are there, the fault UNDER is noted at p,", RulesTest::underIsNoted);
        Document.says("and nothing further happens from this situation.", RulesTest::underEnds);

        Document.open("nothing further happens from this situation. 2.", "3. Kinds:");
        Document.says("PUSH, NEW, DUP and LOAD need the height to be less than the greatest height;",
                RulesTest::room);
        Document.says("otherwise the fault OVER is noted at p,", RulesTest::overIsNoted);
        Document.says("and nothing further happens from this situation.", RulesTest::overEnds);

        Document.open("3. Kinds:", "4. The kinds change");
        Document.says("both cells of ADD must be NUMBER;", () -> fits(Code.ADD, N, N));
        Document.says("the cell of READ must be RECORD;", () -> fits(Code.READ, 0, R));
        Document.says("of WRITE the top cell must be NUMBER and the one below it RECORD;",
                () -> fits(Code.WRITE, R, N));
        Document.says("both cells of SAME must be RECORD;", () -> fits(Code.SAME, R, R));
        Document.says("the cell of STOP must be NUMBER.", () -> fits(Code.STOP, 0, N));
        Document.says("If that is not so, the fault KIND is noted at p;", RulesTest::kindIsNoted);
        Document.says("what follows happens all the same.", RulesTest::kindGoesOn);

        Document.open("4. The kinds change as the table says:", "5. Next positions:");
        Document.says("PUSH pushes NUMBER;", () -> changes("PUSH 5", 0, N));
        Document.says("NEW pushes RECORD;", () -> changes("NEW", 0, R));
        Document.says("POP, DUP, SWAP move kinds as they are;", RulesTest::moves);
        Document.says("ADD, READ and SAME push NUMBER for what they pop, whatever its kind was;", RulesTest::numbers);
        Document.says("WRITE pops two;", () -> changes("WRITE", 2));
        Document.says("LOAD pushes the kind of the local, UNSET included (this is no fault);", RulesTest::loads);
        Document.says("KEEP gives the popped kind to the local, UNSET included;", RulesTest::keeps);
        Document.says("JUMP, FORK and STOP change no kind.", RulesTest::noChange);

        Document.open("5. Next positions:", "THE MACHINE");
        Document.says("STOP has none;", RulesTest::stopGoesNowhere);
        Document.says("JUMP has t;", RulesTest::jumpGoes);
        Document.says("FORK has t and p + 1;", RulesTest::forkGoes);
        Document.says("every other operation has p + 1.", RulesTest::othersGo);
        Document.says("For every next position q with 0 <= q < length() the situation at q with the changed kinds is"
                + " reached;", RulesTest::inside);
        Document.says("for every other next position the fault LEAVES is noted at p", RulesTest::outside);
        Document.says("(and nothing is reached that way).", RulesTest::nothingOutside);
        Document.says("The reached situations are those that these rules reach, and no others.",
                RulesTest::noOthers);
        Document.end();
    }

    private static void threeKinds() {
        PathJudge cells = Code.program(4, 8, "PUSH 0, NEW, LOAD 0, JUMP 3");
        Code.isKinds("cells", cells, 3, N, R, U);
        PathJudge locals = Code.program(4, 8, "PUSH 0, KEEP 0, NEW, KEEP 1, LOAD 0, KEEP 1, JUMP 6");
        int[] first = {U, U, N, N, N, N, N};
        int[] second = {U, U, U, U, R, R, N};
        int[] height = {0, 1, 0, 1, 0, 1, 0};
        for (int p = 0; p < 7; p++) {
            Due.is("local 0 at " + p, first[p], locals.kinds(p, height[p], 4));
            Due.is("local 1 at " + p, second[p], locals.kinds(p, height[p], 5));
        }
    }

    /** Two ways to position 7 that differ in one thing alone: both situations are there, and both go on. */
    private static void situationsApart() {
        PathJudge bottom = Code.program(4, 8, "FORK 4, PUSH 0, PUSH 0, JUMP 7, NEW, PUSH 0, JUMP 7, POP, STOP");
        Due.is("the bottom cell", N + R, bottom.kinds(7, 2, 0));
        Due.is("the bottom cell, later", N + R, bottom.kinds(8, 1, 0));
        PathJudge top = Code.program(4, 8, "FORK 4, PUSH 0, PUSH 0, JUMP 7, PUSH 0, NEW, JUMP 7, KEEP 0, STOP");
        Due.is("the top cell", N + R, top.kinds(7, 2, 1));
        Due.is("the top cell, later", N + R, top.kinds(8, 1, 4));
        PathJudge order = Code.program(4, 8, "FORK 4, PUSH 0, NEW, JUMP 7, NEW, PUSH 0, JUMP 7, POP, STOP");
        Due.is("the order of the cells, below", N + R, order.kinds(7, 2, 0));
        Due.is("the order of the cells, above", N + R, order.kinds(7, 2, 1));
        Due.is("the order of the cells, later", N + R, order.kinds(8, 1, 0));
        PathJudge first = Code.program(4, 8, "FORK 4, PUSH 0, KEEP 0, JUMP 7, NEW, KEEP 0, JUMP 7, LOAD 0, STOP");
        Due.is("local 0", N + R, first.kinds(7, 0, 4));
        Due.is("local 0, later", N + R, first.kinds(8, 1, 0));
        PathJudge second = Code.program(4, 8, "FORK 4, PUSH 0, KEEP 1, JUMP 7, NEW, KEEP 1, JUMP 7, LOAD 1, STOP");
        Due.is("local 1", N + R, second.kinds(7, 0, 5));
        Due.is("local 1, later", N + R, second.kinds(8, 1, 0));
        PathJudge unset = Code.program(4, 8, "FORK 4, NEW, KEEP 1, JUMP 7, JUMP 7, POP, POP, LOAD 1, STOP");
        Due.is("a local that is not set", R + U, unset.kinds(7, 0, 5));
        Due.is("a local that is not set, later", R + U, unset.kinds(8, 1, 0));
        PathJudge height = Code.program(4, 8, "FORK 4, PUSH 0, PUSH 0, JUMP 7, PUSH 0, JUMP 7, POP, POP, STOP");
        Due.is("the height", 2 + 4, height.heights(7));
        Due.is("the height, later", 1 + 2, height.heights(8));
        PathJudge position = Code.program(4, 8, "JUMP 1, JUMP 2, JUMP 3, JUMP 3");
        Due.is("the position", 3, position.distance(3));
    }

    private static void firstSituation() {
        for (int op = 0; op < 14; op++) {
            PathJudge judge = new PathJudge(1, 1);
            Due.is("of an empty program: heights(0)", 0, judge.heights(0));
            Due.is("of an empty program: distance(0)", -1, judge.distance(0));
            Due.is("of an empty program: kinds(0, 0, 4)", 0, judge.kinds(0, 0, 4));
            judge.emit(op, 1);
            Due.is("of " + Code.name(op) + ": heights(0)", 1, judge.heights(0));
            Due.is("of " + Code.name(op) + ": distance(0)", 0, judge.distance(0));
            Due.is("of " + Code.name(op) + ": kinds(0, 0, 4)", U, judge.kinds(0, 0, 4));
            Due.is("of " + Code.name(op) + ": kinds(0, 0, 5)", U, judge.kinds(0, 0, 5));
        }
    }

    private static int faultOf(int maxHeight, int p, String text) {
        return Code.program(maxHeight, 1, text).faults(p);
    }

    private static void order() {
        Due.is("UNDER, so no OVER", PathJudge.UNDER, faultOf(1, 0, "DUP"));
        Due.is("UNDER, so no KIND", PathJudge.UNDER, faultOf(1, 1, "NEW, ADD, JUMP 2"));
        Due.is("UNDER, so no LEAVES", PathJudge.UNDER, faultOf(1, 0, "POP"));
        Due.is("OVER, so no LEAVES", PathJudge.OVER, faultOf(1, 1, "PUSH 0, PUSH 0"));
        Due.is("KIND, and LEAVES all the same", PathJudge.KIND + PathJudge.LEAVES, faultOf(1, 1, "PUSH 0, READ"));
        Due.is("KIND before the kinds change", PathJudge.KIND, faultOf(1, 1, "PUSH 0, READ, STOP"));
        Due.is("no KIND by the changed kinds", 0, faultOf(1, 1, "NEW, READ, STOP"));
    }

    /** Each of the operations on every height from none to four, on cells of every kind. */
    private static void needs(int cells, String names) {
        for (String name : names.split(", ")) {
            for (String push : PUSHES) {
                for (int height = 0; height <= 4; height++) {
                    String text = (push + ", ").repeat(height) + name + ", JUMP " + (height + 1);
                    int fault = faultOf(4, height, text) & PathJudge.UNDER;
                    Due.is(text + ": UNDER", height < cells ? PathJudge.UNDER : 0, fault);
                }
            }
        }
    }

    private static void underIsNoted() {
        PathJudge judge = Code.program(4, 8, "PUSH 0, JUMP 3, POP, ADD, POP");
        int[] want = {0, 0, 0, PathJudge.UNDER, 0};
        for (int p = 0; p < want.length; p++) {
            Due.is("faults(" + p + ")", want[p], judge.faults(p));
        }
        PathJudge last = Code.program(4, 8, "JUMP 15" + ", STOP".repeat(14) + ", SAME");
        Due.is("at the last of 16", PathJudge.UNDER, last.faults(15));
        PathJudge one = Code.program(4, 8, "FORK 2, PUSH 0, POP, JUMP 3");
        Due.is("from one of two situations", PathJudge.UNDER, one.faults(2));
    }

    private static void underEnds() {
        for (String name : "POP, DUP, READ, KEEP 1, STOP, SWAP, ADD, WRITE, SAME".split(", ")) {
            PathJudge judge = Code.program(4, 8, name + ", STOP");
            Due.is(name + " on none: faults(0)", PathJudge.UNDER, judge.faults(0));
            Due.is(name + " on none: distance(1)", -1, judge.distance(1));
            Due.is(name + " on none: heights(1)", 0, judge.heights(1));
            Due.is(name + " on none: faults(1)", 0, judge.faults(1));
        }
        for (String name : "SWAP, ADD, WRITE, SAME".split(", ")) {
            PathJudge judge = Code.program(4, 8, "LOAD 1, " + name + ", STOP");
            Due.is(name + " on one: no KIND", PathJudge.UNDER, judge.faults(1));
            Due.is(name + " on one: distance(2)", -1, judge.distance(2));
        }
        PathJudge other = Code.program(4, 8, "FORK 2, PUSH 0, POP, JUMP 3");
        Due.is("another situation goes on", 3, other.distance(3));
        Due.is("another situation goes on", 1, other.heights(3));
    }

    private static void room() {
        for (String name : "PUSH 1, NEW, DUP, LOAD 1".split(", ")) {
            for (int max = 1; max <= 4; max++) {
                for (int height = name.equals("DUP") ? 1 : 0; height <= max; height++) {
                    String text = "PUSH 1, ".repeat(height) + name + ", JUMP " + (height + 1);
                    PathJudge judge = Code.program(max, 8, text);
                    Due.is(text + " at most " + max, height < max ? 0 : PathJudge.OVER, judge.faults(height));
                    Due.is(text + " at most " + max, height < max ? 2 << height : 0, judge.heights(height + 1));
                }
            }
        }
        for (String name : "POP, SWAP, ADD, READ, WRITE, KEEP 1, JUMP 0, FORK 0, SAME, STOP".split(", ")) {
            for (int max = 1; max <= 4; max++) {
                int fault = faultOf(max, max, "PUSH 1, ".repeat(max) + name + ", JUMP 0");
                Due.is(name + " needs no room on a stack of " + max, 0, fault & PathJudge.OVER);
            }
        }
    }

    private static void overIsNoted() {
        PathJudge judge = Code.program(2, 8, "PUSH 0, PUSH 0, JUMP 4, PUSH 0, NEW, STOP");
        int[] want = {0, 0, 0, 0, PathJudge.OVER, 0};
        for (int p = 0; p < want.length; p++) {
            Due.is("faults(" + p + ")", want[p], judge.faults(p));
        }
        PathJudge last = Code.program(1, 8, "PUSH 0, JUMP 15" + ", STOP".repeat(13) + ", LOAD 0");
        Due.is("at the last of 16", PathJudge.OVER, last.faults(15));
        PathJudge one = Code.program(1, 8, "FORK 2, PUSH 0, PUSH 0, STOP");
        Due.is("from one of two situations", PathJudge.OVER, one.faults(2));
    }

    private static void overEnds() {
        for (String name : "PUSH 1, NEW, DUP, LOAD 1".split(", ")) {
            for (int max = 1; max <= 4; max++) {
                PathJudge judge = Code.program(max, 8, "PUSH 1, ".repeat(max) + name + ", STOP");
                Due.is(name + " at " + max + ": distance", -1, judge.distance(max + 1));
                Due.is(name + " at " + max + ": heights", 0, judge.heights(max + 1));
            }
        }
        PathJudge other = Code.program(1, 8, "FORK 2, PUSH 0, PUSH 0, STOP");
        Due.is("another situation goes on", 2, other.distance(3));
        Due.is("another situation goes on", 2, other.heights(3));
    }

    /** Just the pair of kinds that is named is without a fault; below 0 stands for any kind. */
    private static void fits(int op, int below, int top) {
        for (int i = 0; i < 3; i++) {
            for (int j = 0; j < 3; j++) {
                String text = PUSHES[i] + ", " + PUSHES[j] + ", " + Code.name(op) + ", JUMP 3";
                boolean fit = KINDS[j] == top && (below == 0 || KINDS[i] == below);
                Due.is(text, fit ? 0 : PathJudge.KIND, faultOf(4, 2, text));
                String high = "NEW, PUSH 0, " + PUSHES[i] + ", " + PUSHES[j] + ", " + Code.name(op) + ", JUMP 5";
                Due.is(high, fit ? 0 : PathJudge.KIND, faultOf(4, 4, high));
            }
        }
        for (int j = 0; j < 3 && below == 0; j++) {
            String only = PUSHES[j] + ", " + Code.name(op) + ", JUMP 2";
            Due.is(only, KINDS[j] == top ? 0 : PathJudge.KIND, faultOf(1, 1, only));
        }
    }

    private static void kindIsNoted() {
        PathJudge judge = Code.program(4, 8, "NEW, JUMP 3, READ, STOP, STOP");
        int[] want = {0, 0, 0, PathJudge.KIND, 0};
        for (int p = 0; p < want.length; p++) {
            Due.is("faults(" + p + ")", want[p], judge.faults(p));
        }
        PathJudge one = Code.program(4, 8, "FORK 3, PUSH 0, JUMP 4, NEW, STOP");
        Due.is("from one of two situations", PathJudge.KIND, one.faults(4));
        PathJudge last = Code.program(4, 8, "NEW, JUMP 15" + ", POP".repeat(13) + ", STOP");
        Due.is("at the last of 16", PathJudge.KIND, last.faults(15));
        for (String name : "POP, DUP, SWAP, KEEP 0, PUSH 0, NEW, LOAD 0, JUMP 3, FORK 3".split(", ")) {
            for (String push : PUSHES) {
                String text = push + ", " + push + ", " + name + ", JUMP 3";
                Due.is("no kind is wrong for " + text, 0, faultOf(4, 2, text));
            }
        }
    }

    private static void kindGoesOn() {
        for (String name : "ADD, SAME, READ".split(", ")) {
            PathJudge judge = Code.program(4, 8, "LOAD 0, LOAD 1, " + name + ", JUMP 3");
            int h = name.equals("READ") ? 2 : 1;
            Due.is(name + ": faults(2)", PathJudge.KIND, judge.faults(2));
            Due.is(name + ": heights(3)", 1 << h, judge.heights(3));
            Due.is(name + ": the top kind", N, judge.kinds(3, h, h - 1));
            Due.is(name + ": distance(3)", 3, judge.distance(3));
        }
        PathJudge write = Code.program(4, 8, "PUSH 0, NEW, NEW, WRITE, STOP");
        Due.is("WRITE: faults(3)", PathJudge.KIND, write.faults(3));
        Code.isKinds("WRITE", write, 4, N);
        Due.is("a second fault", PathJudge.KIND, faultOf(4, 2, "PUSH 0, READ, READ, JUMP 3"));
        Due.is("LEAVES too", PathJudge.KIND + PathJudge.LEAVES, faultOf(4, 1, "PUSH 0, READ"));
        Due.is("STOP goes nowhere", -1, Code.program(4, 8, "NEW, STOP, STOP").distance(2));
    }

    /** On two cells of every kind: so many are popped, and these kinds are pushed. */
    private static void changes(String instruction, int popped, int... pushed) {
        for (int i = 0; i < 3; i++) {
            for (int j = 0; j < 3; j++) {
                int[] pair = {KINDS[i], KINDS[j]};
                int[] want = new int[2 - popped + pushed.length];
                System.arraycopy(pair, 0, want, 0, 2 - popped);
                System.arraycopy(pushed, 0, want, 2 - popped, pushed.length);
                String text = PUSHES[i] + ", " + PUSHES[j] + ", " + instruction + ", JUMP 3";
                PathJudge judge = Code.program(4, 8, text);
                Code.isKinds(text, judge, 3, want);
                Due.is(text + ": local 0", U, judge.kinds(3, want.length, 4));
                Due.is(text + ": local 1", U, judge.kinds(3, want.length, 5));
            }
        }
    }

    private static void moves() {
        changes("POP", 1);
        for (int i = 0; i < 3; i++) {
            for (int j = 0; j < 3; j++) {
                String pair = PUSHES[i] + ", " + PUSHES[j] + ", ";
                PathJudge dup = Code.program(4, 8, "NEW, " + pair + "DUP, JUMP 4");
                Code.isKinds("DUP to the greatest height", dup, 4, R, KINDS[i], KINDS[j], KINDS[j]);
                PathJudge swap = Code.program(4, 8, pair + "SWAP, JUMP 3");
                Code.isKinds("SWAP of the only two", swap, 3, KINDS[j], KINDS[i]);
                PathJudge high = Code.program(4, 8, "NEW, PUSH 0, " + pair + "SWAP, JUMP 5");
                Code.isKinds("SWAP of four", high, 5, R, N, KINDS[j], KINDS[i]);
            }
            PathJudge only = Code.program(4, 8, PUSHES[i] + ", DUP, JUMP 2");
            Code.isKinds("DUP of the only one", only, 2, KINDS[i], KINDS[i]);
            PathJudge none = Code.program(4, 8, PUSHES[i] + ", POP, JUMP 2");
            Code.isKinds("POP of the only one", none, 2);
        }
    }

    private static void numbers() {
        changes("ADD", 2, N);
        changes("READ", 1, N);
        changes("SAME", 2, N);
    }

    private static void loads() {
        for (int i = 0; i < 3; i++) {
            PathJudge first = Code.program(4, 8, PUSHES[i] + ", KEEP 0, LOAD 0, LOAD 1, JUMP 4");
            Code.isKinds("local 0 of " + PUSHES[i], first, 4, KINDS[i], U);
            Due.is("no fault", PathJudge.SAFE, first.verdict());
            PathJudge second = Code.program(4, 8, PUSHES[i] + ", KEEP 1, LOAD 0, LOAD 1, JUMP 4");
            Code.isKinds("local 1 of " + PUSHES[i], second, 4, U, KINDS[i]);
            Due.is("the local stays", KINDS[i], second.kinds(4, 2, 5));
            Due.is("no fault", PathJudge.SAFE, second.verdict());
        }
        changes("LOAD 0", 0, U);
        changes("LOAD 1", 0, U);
    }

    private static void keeps() {
        for (int i = 0; i < 3; i++) {
            for (int local = 0; local < 2; local++) {
                // The local is set first, so that UNSET has something to take the place of.
                String set = "LOAD 1, NEW, KEEP " + local + ", ";
                String text = set + (KINDS[i] == U ? "" : PUSHES[i] + ", ") + "KEEP " + local + ", ";
                PathJudge judge = Code.program(4, 8, text + "JUMP 0");
                int end = judge.length() - 1;
                judge.patch(end, Code.JUMP, end);
                int height = KINDS[i] == U ? 0 : 1;
                Due.is(text + ": heights", 1 << height, judge.heights(end));
                Due.is(text + ": the local", KINDS[i], judge.kinds(end, height, 4 + local));
                Due.is(text + ": the other local", U, judge.kinds(end, height, 5 - local));
                Due.is(text + ": no fault", PathJudge.SAFE, judge.verdict());
            }
        }
    }

    private static void noChange() {
        changes("JUMP 3", 0);
        changes("FORK 3", 0);
        PathJudge fork = Code.program(4, 8, "PUSH 0, NEW, LOAD 0, FORK 5, JUMP 4, JUMP 5");
        Code.isKinds("FORK, at the next position", fork, 4, N, R, U);
        Code.isKinds("FORK, at t", fork, 5, N, R, U);
        PathJudge stop = Code.program(4, 8, "NEW, PUSH 0, STOP");
        Code.isKinds("STOP, where it stands", stop, 2, R, N);
    }

    private static void stopGoesNowhere() {
        for (int t : new int[] {0, 1, 2, 3, -1, 16}) {
            PathJudge judge = Code.program(4, 8, "PUSH 0, STOP " + t + ", POP, POP");
            Due.is("STOP " + t + ": distance(2)", -1, judge.distance(2));
            Due.is("STOP " + t + ": distance(3)", -1, judge.distance(3));
            Due.is("STOP " + t + ": heights(0)", 1, judge.heights(0));
            Due.is("STOP " + t + ": verdict()", PathJudge.SAFE, judge.verdict());
        }
        Due.is("at the end", 0, faultOf(4, 1, "PUSH 0, STOP"));
        Due.is("at the end of 16", 0, faultOf(4, 15, "PUSH 0, JUMP 15" + ", POP".repeat(13) + ", STOP"));
    }

    private static void jumpGoes() {
        for (int t = 0; t < 16; t++) {
            PathJudge judge = Code.program(4, 8, "JUMP " + t + ", JUMP 0".repeat(15));
            for (int p = 1; p < 16; p++) {
                Due.is("JUMP " + t + ": distance(" + p + ")", p == t ? 1 : -1, judge.distance(p));
            }
            Due.is("JUMP " + t + ": verdict()", PathJudge.SAFE, judge.verdict());
        }
        Due.is("at the end", 0, faultOf(4, 0, "JUMP 0"));
    }

    private static void forkGoes() {
        for (int t = 0; t < 16; t++) {
            PathJudge judge = Code.program(4, 8, "FORK " + t + ", JUMP 0".repeat(15));
            for (int p = 1; p < 16; p++) {
                Due.is("FORK " + t + ": distance(" + p + ")", p == t || p == 1 ? 1 : -1, judge.distance(p));
            }
            Due.is("FORK " + t + ": verdict()", PathJudge.SAFE, judge.verdict());
        }
        Due.is("at the end", PathJudge.LEAVES, faultOf(4, 0, "FORK 0"));
        Due.is("both outside", PathJudge.LEAVES, faultOf(4, 0, "FORK 1"));
        Due.is("back and on", 0, faultOf(4, 1, "JUMP 1, FORK 0, JUMP 2"));
    }

    private static void othersGo() {
        String others = "PUSH 4, NEW 4, POP 4, DUP 4, SWAP 4, ADD 4, READ 4, WRITE 4, LOAD 1, KEEP 1, SAME 4";
        for (String name : others.split(", ")) {
            PathJudge judge = Code.program(4, 8, "PUSH 0, PUSH 0, " + name + ", JUMP 3, JUMP 4");
            Due.is(name + ": distance(3)", 3, judge.distance(3));
            Due.is(name + ": distance(4)", -1, judge.distance(4));
            Due.is(name + ": distance(1)", 1, judge.distance(1));
            Due.is(name + ": heights(0)", 1, judge.heights(0));
            int atEnd = faultOf(4, 2, "PUSH 0, PUSH 0, " + name);
            Due.is(name + " at the end", PathJudge.LEAVES, atEnd & PathJudge.LEAVES);
        }
    }

    private static void inside() {
        for (int length = 2; length <= 16; length++) {
            String rest = ", JUMP 1".repeat(length - 2) + ", STOP";
            PathJudge last = Code.program(4, 8, "FORK " + (length - 1) + rest);
            Due.is("the last of " + length, 1, last.distance(length - 1));
            Due.is("the last of " + length, 0, last.faults(0));
            PathJudge beyond = Code.program(4, 8, "FORK " + length + rest);
            Due.is("beyond the last of " + length, PathJudge.LEAVES, beyond.faults(0));
        }
        PathJudge first = Code.program(4, 8, "PUSH 0, JUMP 0");
        Due.is("the first", 31, first.heights(0));
        PathJudge grown = Code.program(4, 8, "PUSH 0, FORK 3, STOP");
        Due.is("before the program has grown", PathJudge.LEAVES, grown.faults(1));
        Code.append(grown, "STOP");
        Due.is("after the program has grown", 0, grown.faults(1));
        Code.isKinds("after the program has grown", grown, 3, N);
    }

    private static void outside() {
        for (int t : Code.OUTSIDE) {
            PathJudge jump = Code.program(4, 8, "PUSH 0, JUMP " + t + ", STOP");
            Due.is("JUMP " + t, PathJudge.LEAVES, jump.faults(1));
            Due.is("JUMP " + t + ": the others", 0, jump.faults(0) + jump.faults(2));
            PathJudge fork = Code.program(4, 8, "PUSH 0, FORK " + t + ", STOP");
            Due.is("FORK " + t, PathJudge.LEAVES, fork.faults(1));
            Due.is("FORK " + t + ": the others", 0, fork.faults(0) + fork.faults(2));
        }
        for (int t = 3; t < 16; t++) {
            Due.is("JUMP " + t + " of 3", PathJudge.LEAVES, faultOf(4, 1, "PUSH 0, JUMP " + t + ", STOP"));
            Due.is("FORK " + t + " of 3", PathJudge.LEAVES, faultOf(4, 1, "PUSH 0, FORK " + t + ", STOP"));
        }
        PathJudge full = Code.program(4, 8, "FORK 0" + ", FORK 0".repeat(15));
        Due.is("p + 1 of the last of 16", PathJudge.LEAVES, full.faults(15));
        Due.is("p + 1 of the one before", 0, full.faults(14));
        PathJudge shrunk = Code.program(4, 8, "JUMP 2, STOP, JUMP 2");
        shrunk.clear();
        Code.append(shrunk, "JUMP 2, STOP");
        Due.is("a position that was there once", PathJudge.LEAVES, shrunk.faults(0));
    }

    private static void nothingOutside() {
        for (int t : Code.OUTSIDE) {
            PathJudge jump = Code.program(4, 8, "JUMP " + t + ", STOP, STOP");
            Due.is("JUMP " + t + ": distance(1)", -1, jump.distance(1));
            Due.is("JUMP " + t + ": distance(2)", -1, jump.distance(2));
            Due.is("JUMP " + t + ": distance(t)", -1, jump.distance(t));
            PathJudge fork = Code.program(4, 8, "PUSH 0, FORK " + t + ", STOP, STOP");
            Due.is("FORK " + t + ", the other way", 2, fork.distance(2));
            Due.is("FORK " + t + ": distance(3)", -1, fork.distance(3));
            Due.is("FORK " + t + ": heights(0)", 1, fork.heights(0));
        }
        PathJudge end = Code.program(4, 8, "PUSH 0, FORK 0");
        Due.is("the way inside is gone", 31, end.heights(0));
        Due.is("the way outside is not", 0, end.heights(2));
    }

    private static void noOthers() {
        PathJudge judge = Code.program(4, 8, "JUMP 2, POP, FORK 0, JUMP 3");
        Due.is("a POP that is not reached: verdict()", PathJudge.SAFE, judge.verdict());
        Due.is("a POP that is not reached: faults(1)", 0, judge.faults(1));
        Due.is("a POP that is not reached: heights(1)", 0, judge.heights(1));
        Due.is("a POP that is not reached: kinds(1, 0, 4)", 0, judge.kinds(1, 0, 4));
        Due.is("a POP that is not reached: distance(1)", -1, judge.distance(1));
        PathJudge patched = Code.program(4, 8, "NEW, DUP, FORK 1, STOP");
        Due.is("before the patch", 4 + 8 + 16, patched.heights(3));
        patched.patch(1, Code.JUMP, 3);
        Due.is("after the patch: heights(3)", 2, patched.heights(3));
        Due.is("after the patch: kinds(3, 2, 0)", 0, patched.kinds(3, 2, 0));
        Due.is("after the patch: distance(2)", -1, patched.distance(2));
        Due.is("after the patch: faults(1)", 0, patched.faults(1));
        PathJudge apart = Code.program(4, 8, "FORK 3, PUSH 0, JUMP 5, NEW, DUP, JUMP 5");
        Due.is("one cell, one kind", N, apart.kinds(5, 1, 0));
        Due.is("two cells, one kind", R, apart.kinds(5, 2, 0));
        Due.is("no kind of the other height", 0, apart.kinds(5, 1, 1));
        PathJudge cell = Code.program(4, 8, "FORK 4, PUSH 0, KEEP 0, JUMP 6, NEW, JUMP 6, POP, JUMP 7");
        Due.is("from POP only the situation with a cell goes on", U, cell.kinds(7, 0, 4));
    }
}
