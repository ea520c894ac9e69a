/** What the document says before its promises, but for the checker's rules: the code and the machine. */
public final class TermsTest {
    private static final int[] INTS = {Code.MIN, Code.MIN + 1, -65536, -1, 0, 1, 2, 255, 65535, Code.MAX - 1, Code.MAX};

    private TermsTest() {
    }

    public static void main(String[] args) {
        Document.open("## What it is", "## The public face");
        Document.says("A small stack code with two local variables, a checker that judges a program over every way"
                + " its forks can go, and a machine that runs a program only when the checker finds no fault in it.",
                TermsTest::everyWay);
        Document.says("An object is used for at most 512 calls after it has been made; what later calls answer is"
                + " free.", TermsTest::lastCall);

        Document.open("## Terms", "THE CHECKER.");
        Document.says("A program is a list of at most 16 instructions at positions 0, 1, 2 ..",
                TermsTest::sixteenInstructions);
        Document.says("Each instruction is an operation (0 to 13) and an argument (an int; ignored where the table"
                + " below shows none).", TermsTest::ignoredArguments);
        Document.says("0 PUSH n push the number n", TermsTest::push);
        Document.says("7 WRITE pop a number, pop a record, set the record's field to the number", TermsTest::write);
        Document.says("1 NEW push a new record (its field is 0)", TermsTest::newRecord);
        Document.says("8 LOAD i push what local i holds (i is 0 or 1)", TermsTest::load);
        Document.says("2 POP drop the top cell", TermsTest::pop);
        Document.says("9 KEEP i pop the top cell into local i (i is 0 or 1)", TermsTest::keep);
        Document.says("3 DUP push a copy of the top cell", TermsTest::dup);
        Document.says("10 JUMP t go on at position t", TermsTest::jump);
        Document.says("4 SWAP exchange the two top cells", TermsTest::swap);
        Document.says("11 FORK t go on at position t, or at the next position", TermsTest::fork);
        Document.says("5 ADD pop two numbers, push their sum", TermsTest::add);
        Document.says("12 SAME pop two records, push 1 if they are the same record, else 0", TermsTest::same);
        Document.says("6 READ pop a record, push its field", TermsTest::read);
        Document.says("13 STOP end (the top cell must be a number; nothing is popped)", TermsTest::stop);

        Document.open("THE MACHINE", "## Promise 1");
        Document.says("holds numbers (ints) in cells and locals;", TermsTest::anyInts);
        Document.says("a record is held as its record number: 0, 1, 2 .. in the order in which the NEWs since the"
                + " start made them.", TermsTest::recordNumbers);
        Document.says("Nothing tells a record number from another number.", TermsTest::plainNumbers);
        Document.says("The constants: `NUMBER = 1`, `RECORD = 2`, `UNSET = 4`: kinds, as bits", TermsTest::kinds);
        Document.says("`UNDER = 1`, `OVER = 2`, `KIND = 4`, `LEAVES = 8`: faults, as bits", TermsTest::faults);
        Document.says("`SAFE = 0`, `UNSAFE = 1`, `EMPTY = 2`: verdicts", TermsTest::verdicts);
        Document.says("`IDLE = 0`, `RUNNING = 1`, `STOPPED = 2`, `EXHAUSTED = 3`: what the machine is doing",
                TermsTest::statuses);
        Document.end();
    }

    /** Of the eight ways through three forks, only the one that takes all of them meets the second POP. */
    private static void everyWay() {
        String ways = "PUSH 1, FORK 4, PUSH 2, STOP, FORK 6, STOP, FORK 8, STOP, POP, ";
        PathJudge judge = Code.program(4, 8, ways + "POP, JUMP 10");
        Due.is("verdict()", PathJudge.UNSAFE, judge.verdict());
        for (int choices = 0; choices < 8; choices++) {
            Due.is("start(" + choices + ")", false, judge.start(choices));
            Due.is("step(1)", 0, judge.step(1));
        }
        PathJudge mended = Code.program(4, 8, ways + "JUMP 9");
        for (int choices = 0; choices < 8; choices++) {
            Due.is("start(" + choices + ") when mended", true, mended.start(choices));
            Due.is("step(64) of " + choices, choices == 7 ? 64 : choices == 3 ? 5 : 4, mended.step(64));
        }
    }

    private static void lastCall() {
        PathJudge steps = new PathJudge(4, 8);
        steps.emit(Code.PUSH, 0);
        steps.emit(Code.PUSH, 1);
        steps.emit(Code.ADD, 0);
        steps.emit(Code.JUMP, 1);
        Due.is("call 5, start(0)", true, steps.start(0));
        for (int call = 6; call < 512; call++) {
            Due.is("call " + call + ", step(64)", 64, steps.step(64));
        }
        Due.is("call 512, cell(0)", (506 * 64 - 1) / 3, steps.cell(0));
        PathJudge patches = new PathJudge(4, 8);
        patches.emit(Code.POP, 0);
        for (int call = 2; call < 511; call++) {
            Due.is("call " + call + ", patch", 0, patches.patch(0, call % 14, call % 2));
        }
        Due.is("call 511, patch", 0, patches.patch(0, Code.JUMP, 0));
        Due.is("call 512, verdict()", PathJudge.SAFE, patches.verdict());
        PathJudge clears = new PathJudge(4, 8);
        for (int call = 1; call < 512; call += 2) {
            Due.is("call " + call + ", emit", 0, clears.emit(Code.STOP, 0));
            clears.clear();
        }
        PathJudge starts = new PathJudge(4, 8);
        starts.emit(Code.NEW, 0);
        starts.emit(Code.JUMP, 1);
        for (int call = 3; call < 511; call += 3) {
            Due.is("call " + call + ", start(0)", true, starts.start(0));
            Due.is("call " + (call + 1) + ", step(64)", 64, starts.step(64));
            Due.is("call " + (call + 2) + ", records()", 1, starts.records());
        }
    }

    /** Every position is reached from the one before it, by the checker and by the machine. */
    private static void sixteenInstructions() {
        PathJudge judge = Code.started(0, "PUSH 7, PUSH 1" + ", SWAP".repeat(13) + ", STOP");
        Due.is("a seventeenth", -1, judge.emit(Code.STOP, 0));
        for (int p = 0; p < 16; p++) {
            Due.is("distance(" + p + ")", p, judge.distance(p));
            Due.is("position()", p, judge.position());
            Due.is("step(1)", 1, judge.step(1));
        }
        Code.isAt("at the last position", judge, PathJudge.STOPPED, 15, 2, 0);
    }

    private static void ignoredArguments() {
        for (int arg : INTS) {
            PathJudge judge = new PathJudge(4, 8);
            int[] ops = {Code.NEW, Code.DUP, Code.DUP, Code.SAME, Code.SWAP, Code.READ, Code.ADD, Code.NEW, Code.DUP,
                Code.POP, Code.PUSH, Code.WRITE, Code.STOP};
            for (int op : ops) {
                int p = judge.length();
                Due.is("emit(" + op + ", " + arg + ")", p, judge.emit(op, arg));
            }
            Due.is("verdict() with " + arg, PathJudge.SAFE, judge.verdict());
            judge.start(0);
            Due.is("step(64) with " + arg, 13, judge.step(64));
            Code.isStack("with " + arg, judge, 1);
            Due.is("the argument of PUSH is not ignored", arg, judge.cell(9));
        }
    }

    private static void push() {
        for (int n : INTS) {
            Code.isStack("PUSH " + n, Code.run(1, "PUSH " + n + ", STOP"), n);
        }
        PathJudge four = Code.run(4, "PUSH 1, PUSH 2, PUSH 3, PUSH 4, STOP");
        Code.isStack("to the greatest height", four, 1, 2, 3, 4);
    }

    private static void write() {
        for (int n : INTS) {
            PathJudge judge = Code.run(4, "NEW, NEW, PUSH " + n + ", WRITE, PUSH 0, STOP");
            Code.isStack("WRITE", judge, 0);
            Due.is("the record's field", n, judge.cell(9));
            Due.is("another record's field", 0, judge.cell(8));
        }
        Code.isStack("what is below stays", Code.run(4, "PUSH 5, NEW, PUSH 6, WRITE, STOP"), 5);
        PathJudge only = Code.run(3, "NEW, PUSH 6, WRITE, JUMP 3");
        Code.isStack("nothing is below", only);
        Due.is("nothing is below", 6, only.cell(8));
        PathJudge twice = Code.run(6, "NEW, DUP, PUSH 6, WRITE, PUSH 9, WRITE, JUMP 6");
        Due.is("the second number stands", 9, twice.cell(8));
    }

    private static void newRecord() {
        PathJudge judge = Code.started(0, "NEW, PUSH 77, WRITE, JUMP 0");
        Due.is("eight records", 32, judge.step(64));
        judge.start(0);
        for (int r = 0; r < 8; r++) {
            judge.step(1);
            Code.isStack("the record", judge, r);
            Due.is("its field, where a run before wrote", 0, judge.cell(8 + r));
            judge.step(3);
        }
    }

    private static void load() {
        PathJudge judge = Code.run(8, "PUSH 5, KEEP 0, PUSH 6, KEEP 1, LOAD 0, LOAD 1, LOAD 1, LOAD 0, STOP");
        Code.isStack("LOAD", judge, 5, 6, 6, 5);
        Due.is("local 0 stays", 5, judge.cell(4));
        Due.is("local 1 stays", 6, judge.cell(5));
        Code.isStack("a local that was never set", Code.run(2, "LOAD 0, LOAD 1, PUSH 1, STOP"), 0, 0);
    }

    private static void pop() {
        Code.isStack("POP", Code.run(3, "PUSH 8, PUSH 9, POP, STOP"), 8);
        Code.isStack("POP of the only cell", Code.run(2, "PUSH 8, POP, JUMP 2"));
        Code.isStack("POP of a full stack", Code.run(5, "PUSH 1, PUSH 2, PUSH 3, PUSH 4, POP, STOP"), 1, 2, 3);
    }

    private static void keep() {
        PathJudge judge = Code.run(4, "PUSH 5, PUSH 6, KEEP 0, KEEP 1, JUMP 4");
        Code.isStack("KEEP", judge);
        Due.is("local 0", 6, judge.cell(4));
        Due.is("local 1", 5, judge.cell(5));
        PathJudge again = Code.run(5, "PUSH 1, PUSH 5, KEEP 1, PUSH 6, KEEP 1, STOP");
        Code.isStack("KEEP over another", again, 1);
        Due.is("the other local", 0, again.cell(4));
        Due.is("the later number", 6, again.cell(5));
    }

    private static void dup() {
        Code.isStack("DUP of the only cell", Code.run(2, "PUSH 8, DUP, STOP"), 8, 8);
        Code.isStack("DUP to the greatest height", Code.run(4, "PUSH 7, PUSH 8, PUSH 9, DUP, STOP"), 7, 8, 9, 9);
        Code.isStack("a copy is the same record", Code.run(6, "NEW, NEW, DUP, PUSH 6, WRITE, READ, STOP"), 0, 6);
    }

    private static void jump() {
        Due.is("to itself", 0, Code.run(9, "JUMP 0").position());
        Due.is("to the next position", 1, Code.run(1, "JUMP 1, JUMP 0").position());
        Due.is("back to the first", 0, Code.run(2, "JUMP 1, JUMP 0").position());
        PathJudge far = Code.run(1, "JUMP 15" + ", POP".repeat(14) + ", JUMP 15");
        Due.is("to the last of 16", 15, far.position());
        Code.isStack("no cell changes", Code.run(3, "PUSH 4, PUSH 5, JUMP 3, STOP"), 4, 5);
    }

    private static void swap() {
        Code.isStack("the only two", Code.run(3, "PUSH 1, PUSH 2, SWAP, STOP"), 2, 1);
        Code.isStack("of four", Code.run(5, "PUSH 1, PUSH 2, PUSH 3, PUSH 4, SWAP, STOP"), 1, 2, 4, 3);
        Code.isStack("twice", Code.run(4, "PUSH 1, PUSH 2, SWAP, SWAP, STOP"), 1, 2);
    }

    private static void fork() {
        String text = "PUSH 4, FORK 3, STOP, FORK 3, STOP";
        for (int choices = 0; choices < 4; choices++) {
            PathJudge judge = Code.started(choices, text);
            judge.step(2);
            Due.is("after the first fork of " + choices, choices % 2 == 1 ? 3 : 2, judge.position());
            Code.isStack("no cell changes", judge, 4);
            judge.step(1);
            Due.is("after the next of " + choices, choices == 3 ? 3 : choices == 1 ? 4 : 2, judge.position());
        }
        for (int choices = 0; choices < 2; choices++) {
            PathJudge next = Code.started(choices, "FORK 1, JUMP 0");
            next.step(1);
            Due.is("t is the next position", 1, next.position());
        }
    }

    private static void add() {
        Code.isStack("the only two", Code.run(3, "PUSH 1, PUSH 2, ADD, STOP"), 3);
        Code.isStack("of four", Code.run(5, "PUSH 1, PUSH 2, PUSH 3, PUSH 4, ADD, STOP"), 1, 2, 7);
        Code.isStack("below 0", Code.run(3, "PUSH -7, PUSH 2, ADD, STOP"), -5);
    }

    private static void same() {
        Code.isStack("one record", Code.run(3, "NEW, DUP, SAME, STOP"), 1);
        Code.isStack("two records", Code.run(3, "NEW, NEW, SAME, STOP"), 0);
        Code.isStack("a record by a local", Code.run(6, "NEW, NEW, DUP, KEEP 1, LOAD 1, SAME, STOP"), 0, 1);
        Code.isStack("two records with equal fields",
                Code.run(9, "NEW, DUP, PUSH 6, WRITE, NEW, DUP, PUSH 6, WRITE, SAME, STOP"), 0);
    }

    private static void read() {
        Code.isStack("a new record", Code.run(2, "NEW, READ, STOP"), 0);
        String two = "NEW, DUP, PUSH 6, WRITE, NEW, DUP, PUSH 9, WRITE, ";
        Code.isStack("the second record", Code.run(9, two + "READ, STOP"), 0, 9);
        Code.isStack("the first record", Code.run(10, two + "SWAP, READ, STOP"), 1, 6);
        Due.is("the field stays", 6, Code.run(10, two + "SWAP, READ, STOP").cell(8));
        PathJudge eight = Code.started(127, "NEW, KEEP 0, LOAD 0, PUSH 3, WRITE, FORK 0, LOAD 0, READ, STOP");
        eight.step(8 * 6 + 2);
        Due.is("records()", 8, eight.records());
        Code.isStack("the last of eight", eight, 3);
    }

    private static void stop() {
        PathJudge judge = Code.run(64, "NEW, PUSH 4, STOP, STOP");
        Code.isAt("STOP", judge, PathJudge.STOPPED, 2, 2, 1);
        Code.isStack("nothing is popped", judge, 0, 4);
        Due.is("a record on top", PathJudge.KIND, Code.program(4, 8, "NEW, STOP").faults(1));
        Due.is("nothing on top", PathJudge.UNDER, Code.program(4, 8, "STOP").faults(0));
    }

    private static void anyInts() {
        for (int n : INTS) {
            PathJudge judge = Code.run(6, "PUSH " + n + ", DUP, DUP, KEEP 0, DUP, KEEP 1, STOP");
            Code.isStack("cells", judge, n, n);
            Due.is("local 0", n, judge.cell(4));
            Due.is("local 1", n, judge.cell(5));
        }
    }

    private static void recordNumbers() {
        PathJudge judge = Code.started(0, "NEW, KEEP 0, JUMP 0");
        for (int run = 0; run < 2; run++) {
            for (int r = 0; r < 8; r++) {
                Due.is("step(3)", 3, judge.step(3));
                Due.is("record " + r + " of run " + run, r, judge.cell(4));
                Due.is("records()", r + 1, judge.records());
            }
            Due.is("start(0), and again from 0", true, judge.start(0));
        }
        Code.isStack("three at once", Code.run(3, "NEW, NEW, NEW, READ, STOP"), 0, 1, 2);
    }

    private static void plainNumbers() {
        PathJudge judge = Code.run(4, "NEW, POP, NEW, PUSH 1, STOP");
        Code.isStack("record 1 and the number 1", judge, 1, 1);
    }

    private static void kinds() {
        Due.is("NUMBER", 1, PathJudge.NUMBER);
        Due.is("RECORD", 2, PathJudge.RECORD);
        Due.is("UNSET", 4, PathJudge.UNSET);
    }

    private static void faults() {
        Due.is("UNDER", 1, PathJudge.UNDER);
        Due.is("OVER", 2, PathJudge.OVER);
        Due.is("KIND", 4, PathJudge.KIND);
        Due.is("LEAVES", 8, PathJudge.LEAVES);
    }

    private static void verdicts() {
        Due.is("SAFE", 0, PathJudge.SAFE);
        Due.is("UNSAFE", 1, PathJudge.UNSAFE);
        Due.is("EMPTY", 2, PathJudge.EMPTY);
    }

    private static void statuses() {
        Due.is("IDLE", 0, PathJudge.IDLE);
        Due.is("RUNNING", 1, PathJudge.RUNNING);
        Due.is("STOPPED", 2, PathJudge.STOPPED);
        Due.is("EXHAUSTED", 3, PathJudge.EXHAUSTED);
    }
}
