/** The boundaries of promises 12 (run), 13 (result) and 14 (used). */
public final class RunEdgeTest {
    private static final int BAD = FlowDesk.BAD;
    private static final int A_NUMBER = 0, A_CLOSURE = 1, STUCK = 2, MORE = 3;

    public static void main(String[] args) {
        sumsThatWrap();
        differencesThatWrap();
        productsThatWrap();
        comparedAtTheEnds();
        comparedWhole();
        chosenByAllBits();
        stepsFrom1To2000();
        otherNumbersOfSteps();
        oneStepTooFew();
        lastOf2000Steps();
        operatorBeforeArgument();
        firstPartBeforeSecond();
        stuckAtEachSign();
        stuckAtIf();
        stuckAtACall();
        stuckBehindTheArgument();
        stuckNotInWhatIsNotWorked();
        stuckOrOutOfSteps();
        resultWithoutRun();
        resultOfEachEnd();
        usedWithoutRun();
        usedOfNoCall();
        usedByCallsThatBegin();
        usedOfLastRunOnly();
        deepestWaits();
        mostBindings();
        valuesThatStay();
        Check.end();
    }

    private static void dueNumber(String text, long want) {
        FlowDesk desk = Check.program(text);
        Check.due("run of " + text, desk.run(2000), A_NUMBER);
        Check.due("result of " + text, desk.result(), want);
    }

    /** With h the highest number of 64 bits and l the lowest. */
    private static String atTheEnds(String expr) {
        return "(let a (* 65536 32768) (let l (* (* a a) 2) (let h (- l 1) " + expr + ")))";
    }

    // "VALUES are whole numbers of 64 bits", "+ - * wrap"
    private static void sumsThatWrap() {
        dueNumber(atTheEnds("h"), Long.MAX_VALUE);
        dueNumber(atTheEnds("l"), Long.MIN_VALUE);
        dueNumber(atTheEnds("(+ h 0)"), Long.MAX_VALUE);
        dueNumber(atTheEnds("(+ (- h 1) 1)"), Long.MAX_VALUE);
        dueNumber(atTheEnds("(+ h 1)"), Long.MIN_VALUE);
        dueNumber(atTheEnds("(+ 1 h)"), Long.MIN_VALUE);
        dueNumber(atTheEnds("(+ h h)"), -2);
        dueNumber(atTheEnds("(+ l -1)"), Long.MAX_VALUE);
        dueNumber(atTheEnds("(+ l l)"), 0);
        dueNumber(atTheEnds("(+ h l)"), -1);
    }

    private static void differencesThatWrap() {
        dueNumber(atTheEnds("(- l 0)"), Long.MIN_VALUE);
        dueNumber(atTheEnds("(- (+ l 1) 1)"), Long.MIN_VALUE);
        dueNumber(atTheEnds("(- l 1)"), Long.MAX_VALUE);
        dueNumber(atTheEnds("(- 0 l)"), Long.MIN_VALUE);
        dueNumber(atTheEnds("(- 0 h)"), -Long.MAX_VALUE);
        dueNumber(atTheEnds("(- -1 h)"), Long.MIN_VALUE);
        dueNumber(atTheEnds("(- -2 h)"), Long.MAX_VALUE);
        dueNumber(atTheEnds("(- h -1)"), Long.MIN_VALUE);
        dueNumber(atTheEnds("(- l h)"), 1);
        dueNumber(atTheEnds("(- h l)"), -1);
    }

    private static void productsThatWrap() {
        dueNumber(atTheEnds("a"), 1L << 31);
        dueNumber(atTheEnds("(* a a)"), 1L << 62);
        dueNumber(atTheEnds("(* a (* a 2))"), Long.MIN_VALUE);
        dueNumber(atTheEnds("(* (* a a) 4)"), 0);
        dueNumber(atTheEnds("(* l -1)"), Long.MIN_VALUE);
        dueNumber(atTheEnds("(* h -1)"), -Long.MAX_VALUE);
        dueNumber(atTheEnds("(* h 2)"), -2);
        dueNumber(atTheEnds("(* h h)"), 1);
        dueNumber(atTheEnds("(* l l)"), 0);
        dueNumber(atTheEnds("(* l 3)"), Long.MIN_VALUE);
        dueNumber("(* 999999 -999999)", -999999L * 999999L);
    }

    // "= and < answer 1 or 0"
    private static void comparedAtTheEnds() {
        dueNumber(atTheEnds("(< l h)"), 1);
        dueNumber(atTheEnds("(< h l)"), 0);
        dueNumber(atTheEnds("(< h h)"), 0);
        dueNumber(atTheEnds("(< l l)"), 0);
        dueNumber(atTheEnds("(< (- h 1) h)"), 1);
        dueNumber(atTheEnds("(< l (+ l 1))"), 1);
        dueNumber(atTheEnds("(< l 0)"), 1);
        dueNumber(atTheEnds("(< 0 h)"), 1);
        dueNumber(atTheEnds("(< h (+ h 1))"), 0);
        dueNumber(atTheEnds("(= l h)"), 0);
        dueNumber(atTheEnds("(= l (+ h 1))"), 1);
        dueNumber(atTheEnds("(= h h)"), 1);
        dueNumber("(< -1 0)", 1);
        dueNumber("(< 0 -1)", 0);
        dueNumber("(< 0 0)", 0);
        dueNumber("(< 0 1)", 1);
        dueNumber("(= 0 -0)", 1);
        dueNumber("(= 1 -1)", 0);
    }

    private static void comparedWhole() {
        String big = "(let b (* 65536 65536) ";
        dueNumber(big + "(= b 0))", 0);
        dueNumber(big + "(= (+ b 1) 1))", 0);
        dueNumber(big + "(< 1 b))", 1);
        dueNumber(big + "(< b 1))", 0);
        dueNumber(big + "(< (* b -1) 0))", 1);
        dueNumber(big + "(- (+ b 5) b))", 5);
    }

    // "if takes a when c is not 0, else b"
    private static void chosenByAllBits() {
        dueNumber("(if 0 5 6)", 6);
        dueNumber("(if -0 5 6)", 6);
        dueNumber("(if 1 5 6)", 5);
        dueNumber("(if -1 5 6)", 5);
        dueNumber("(let b (* 65536 65536) (if b 5 6))", 5);
        dueNumber(atTheEnds("(if l 5 6)"), 5);
        dueNumber(atTheEnds("(if h 5 6)"), 5);
        dueNumber(atTheEnds("(if (+ l l) 5 6)"), 6);
    }

    // "A run of so many STEPS at most (1 .. 2000)", "BAD: also another number of STEPS."
    private static void stepsFrom1To2000() {
        FlowDesk desk = Check.program("7");
        Check.due("run(1)", desk.run(1), A_NUMBER);
        Check.due("run(2)", desk.run(2), A_NUMBER);
        Check.due("run(1999)", desk.run(1999), A_NUMBER);
        Check.due("run(2000)", desk.run(2000), A_NUMBER);
        desk = Check.program("(fix f x (f x))");
        Check.due("run(1)", desk.run(1), A_CLOSURE);
    }

    private static void otherNumbersOfSteps() {
        int[] wrong = {0, -1, 2001, -2000, 1 << 16, Integer.MIN_VALUE, Integer.MIN_VALUE + 1, Integer.MAX_VALUE};
        for (int steps : wrong) {
            State.dueRefused("run(" + steps + ")", RunEdgeTest::ran, desk -> desk.run(steps), BAD);
            State.dueRefused("run(" + steps + ") before a run", () -> Check.program("(+ 1 2)"), desk -> desk.run(steps), BAD);
            State.dueRefused("run(" + steps + ") without program", () -> Check.typed("1"), desk -> desk.run(steps), BAD);
        }
        State.dueRefused("run(1) without program", () -> Check.typed("1"), desk -> desk.run(1), BAD);
        State.dueRefused("run(2000) without program", () -> Check.typed("1"), desk -> desk.run(2000), BAD);
    }

    private static FlowDesk ran() {
        FlowDesk desk = Check.program("(let f \\x.(+ x 1) (f (f 3)))");
        desk.run(2000);
        return desk;
    }

    // "A STEP is each expr that is begun. A run of n STEPS ends before the one that would be one more."
    private static void oneStepTooFew() {
        String[] texts = {"7", "\\x.x", "(fix f x f)", "(+ 1 2)", "(if 0 1 2)", "(if 1 2 3)", "(let x 1 x)", "(\\x.x 1)", "((fix f x x) 1)",
            "(let f \\x.(x x) (f \\y.y))", "(1 2)", "(+ \\x.x 1)", "(if \\x.x 1 2)"};
        int[] whole = {1, 1, 1, 3, 3, 3, 3, 4, 4, 9, 3, 3, 2};
        for (int i = 0; i < texts.length; i++) {
            FlowDesk desk = Check.program(texts[i]);
            for (int steps = 1; steps <= whole[i] + 2; steps++) {
                boolean ends = steps >= whole[i];
                Check.due("run(" + steps + ") of " + texts[i] + " ends", desk.run(steps) == MORE ? 0 : 1, ends ? 1 : 0);
                Check.due("steps of " + texts[i], desk.told(7), Math.min(steps, whole[i]));
                Check.due("no result yet of " + texts[i], ends ? 0 : desk.result(), 0);
            }
        }
    }

    private static void lastOf2000Steps() {
        // Seven steps a turn, five round all of them, and what comes at the end: 1999, 2000 and 2001.
        String count = "((fix f n (if n (f (- n 1)) E)) 284)";
        Check.dueRun(count.replace("E", "(if 0 1(\\x.x 7))"), A_NUMBER, 7, 1999);
        Check.dueRun(count.replace("E", "(let a 1(+ a(+ a 7)))"), A_NUMBER, 9, 2000);
        Check.dueRun(count.replace("E", "(if 0 1(if 0 1(\\x.x 7)))"), MORE, 0, 2000);
        Check.dueRun(count.replace("E", "(if 0 1(if 0 1(if 0 1\\x.x)))"), A_CLOSURE, 1, 2000);
        Check.dueRun(count.replace("E", "(if 0 1(if 0 1(\\x.\\y.x 7)))"), MORE, 0, 2000);
        Check.dueRun(count.replace("E", "(+ 1(+ 1(+ 1 \\x.x)))"), STUCK, 13, 2000);
        Check.dueRun(count.replace("E", "(+ 1(+ 1(+(+ 1 1) \\x.x)))"), MORE, 0, 2000);
    }

    // "Exprs are worked from left to right: the OPERATOR, the ARGUMENT, then the body with x (and f) bound"
    private static void operatorBeforeArgument() {
        Check.dueRun("((1 2) (3 4))", STUCK, 1, 4);
        Check.dueRun("((+ \\x.x 1) (3 4))", STUCK, 1, 4);
        Check.dueRun("(\\x.(1 2) (3 4))", STUCK, 5, 5);
        Check.dueRun("((if 1 \\x.(1 2) 3) (+ 4 5))", STUCK, 4, 10);
    }

    private static void firstPartBeforeSecond() {
        String[] signs = {"+", "-", "*", "=", "<"};
        for (String sign : signs) {
            Check.dueRun("(" + sign + " (1 2) (3 4))", STUCK, 1, 4);
            Check.dueRun("(" + sign + " 1 (3 4))", STUCK, 2, 5);
            Check.dueRun("(" + sign + " (let a 1 a) (3 4))", STUCK, 4, 7);
        }
        Check.dueRun("(let a (1 2) (3 4))", STUCK, 1, 4);
        Check.dueRun("(let a 1 (3 4))", STUCK, 2, 5);
        Check.dueRun("(if (1 2) (3 4) (5 6))", STUCK, 1, 4);
    }

    // "A run is STUCK where + - * = < if meet a closure"
    private static void stuckAtEachSign() {
        String[] signs = {"+", "-", "*", "=", "<"};
        for (String sign : signs) {
            dueNumber("(if (" + sign + " 1 2) 3 3)", 3);
            Check.dueRun("(" + sign + " \\x.x 2)", STUCK, 0, 3);
            Check.dueRun("(" + sign + " 1 \\x.x)", STUCK, 0, 3);
            // "of two wrong ones of + - * = < either"
            Check.dueRun("(" + sign + " \\x.x (fix f x x))", STUCK, 0, 3);
            Check.dueRun("(let a 1 (" + sign + " a (fix f x x)))", STUCK, 2, 5);
            Check.dueRun("(let f \\x.x (" + sign + " f f))", STUCK, 3, 5);
        }
    }

    private static void stuckAtIf() {
        Check.dueRun("(if \\x.x 1 2)", STUCK, 0, 2);
        Check.dueRun("(if (fix f x x) 1 2)", STUCK, 0, 2);
        Check.dueRun("(let f \\x.x (if f 1 2))", STUCK, 3, 4);
        Check.dueRun("(if 1 \\x.x 2)", A_CLOSURE, 0, 3);
        Check.dueRun("(if 0 2 \\x.x)", A_CLOSURE, 0, 3);
    }

    // "or a CALL's OPERATOR is a number"
    private static void stuckAtACall() {
        Check.dueRun("(0 1)", STUCK, 0, 3);
        Check.dueRun("(-1 1)", STUCK, 0, 3);
        Check.dueRun("(0 \\x.x)", STUCK, 0, 3);
        Check.dueRun("(\\x.(x 1) 0)", STUCK, 2, 6);
        Check.dueRun("((\\x.x 1) 2)", STUCK, 0, 6);
        Check.dueRun("(\\x.x 1)", A_NUMBER, 1, 4);
        Check.dueRun("(\\x.x \\y.y)", A_CLOSURE, 1, 4);
    }

    // "(behind the ARGUMENT"
    private static void stuckBehindTheArgument() {
        Check.dueRun("(1 (2 3))", STUCK, 2, 5);
        Check.dueRun("(1 (2 (3 4)))", STUCK, 4, 7);
        Check.dueRun("(1 (+ 2 \\x.x))", STUCK, 2, 5);
        Check.dueRun("(1 (if \\x.x 2 3))", STUCK, 2, 4);
        Check.dueRun("(1 (+ 2 3))", STUCK, 0, 5);
        Check.dueRun("(1 ((fix f x (f x)) 2))", MORE, 0, 2000);
    }

    private static void stuckNotInWhatIsNotWorked() {
        Check.dueRun("(if 1 2 (3 4))", A_NUMBER, 2, 3);
        Check.dueRun("(if 0 (3 4) 2)", A_NUMBER, 2, 3);
        Check.dueRun("\\x.(1 2)", A_CLOSURE, 0, 1);
        Check.dueRun("(let f \\x.(1 2) 3)", A_NUMBER, 3, 3);
    }

    private static void stuckOrOutOfSteps() {
        FlowDesk desk = Check.program("(1 2)");
        Check.due("run(2)", desk.run(2), MORE);
        Check.due("result", desk.result(), 0);
        Check.due("run(3)", desk.run(3), STUCK);
        desk = Check.program("(+ 5 (if \\x.x 1 2))");
        Check.due("run(3)", desk.run(3), MORE);
        Check.due("result", desk.result(), 0);
        Check.due("run(4)", desk.run(4), STUCK);
        Check.due("result", desk.result(), 2);
    }

    // "0 without."
    private static void resultWithoutRun() {
        Check.due("a new object", new FlowDesk().result(), 0);
        FlowDesk desk = Check.program("7");
        Check.due("no run", desk.result(), 0);
        desk.run(1);
        Check.due("a run", desk.result(), 7);
        desk.read();
        Check.due("read since", desk.result(), 0);
        desk = Check.program("(let a 1 (\\x.x 2))");
        desk.run(99);
        desk.inline(2);
        Check.due("inlined since", desk.result(), 0);
        desk.run(99);
        desk.drop(0);
        Check.due("dropped since", desk.result(), 0);
    }

    // "the number, or the FUNCTION of the closure; STUCK: the LABEL of the expr where"
    private static void resultOfEachEnd() {
        Check.dueRun("0", A_NUMBER, 0, 1);
        Check.dueRun("-1", A_NUMBER, -1, 1);
        Check.dueRun("-2", A_NUMBER, -2, 1);
        Check.dueRun("\\x.x", A_CLOSURE, 0, 1);
        Check.dueRun("(\\x.x \\y.y)", A_CLOSURE, 1, 4);
        Check.dueRun("(" + Check.times("\\x.", 25) + "1" + Check.times("\\x.", 25) + "1)", A_CLOSURE, 1, 4);
        Check.dueRun("(let a(" + Check.times("\\x.", 25) + "1" + Check.times("\\x.", 24) + "1)\\z.1)", A_CLOSURE, 49, 6);
        Check.dueRun("(1 2)", STUCK, 0, 3);
        Check.dueRun("(if 0(+" + Check.calls(97) + "1)(2 3))", STUCK, 197, 5);
        FlowDesk desk = Check.program("7");
        desk.run(1);
        Check.retype(desk, "((fix f x (f x)) 1)");
        desk.read();
        Check.due("without end", desk.run(2000), MORE);
        Check.due("its result", desk.result(), 0);
    }

    // "0 also where BAD would be."
    private static void usedWithoutRun() {
        Check.due("a new object", new FlowDesk().used(0), 0);
        Check.due("no program", Check.typed("(\\x.x 1)").used(0), 0);
        FlowDesk desk = Check.program("(\\x.x 1)");
        Check.due("no run", desk.used(0), 0);
        desk.run(99);
        Check.due("a run", desk.used(0), 1);
        desk.read();
        Check.due("read since", desk.used(0), 0);
        desk.run(99);
        desk.inline(0);
        Check.due("inlined since", desk.used(0), 0);
    }

    private static void usedOfNoCall() {
        FlowDesk desk = ran();
        int[] calls = {5, 7};
        for (int label = -1; label <= 10; label++) {
            Check.due("used(" + label + ")", desk.used(label), label == calls[0] || label == calls[1] ? 1 : 0);
        }
        int[] far = {Integer.MIN_VALUE, -256, 199, 200, 256, Integer.MAX_VALUE};
        for (int label : far) {
            Check.due("used(" + label + ")", desk.used(label), 0);
        }
    }

    // "USED of a CALL are the FUNCTIONS that it called in the run."
    private static void usedByCallsThatBegin() {
        FlowDesk desk = Check.program("(\\x.(x 1) \\y.y)");
        long[][] want = {{0, 0}, {0, 0}, {1, 0}, {1, 0}, {1, 0}, {1, 2}, {1, 2}};
        for (int steps = 1; steps <= 7; steps++) {
            desk.run(steps);
            Check.due("used(0) of " + steps, desk.used(0), want[steps - 1][0]);
            Check.due("used(2) of " + steps, desk.used(2), want[steps - 1][1]);
        }
        desk = Check.program("(1 \\x.x)");
        desk.run(99);
        Check.due("a number called", desk.used(0), 0);
        desk = Check.program("(\\x.x (1 2))");
        desk.run(99);
        Check.due("stuck in the argument", desk.used(0), 0);
        desk = Check.program("(let a(" + Check.times("\\x.", 25) + "1" + Check.times("\\x.", 24) + "1)(\\z.1 2))");
        desk.run(99);
        Check.due("the 50th", desk.used(53), 1L << 49);
        desk = Check.program("(let i \\h.(h 1) (if 0 (i \\x.x) (i \\y.y)))");
        desk.run(99);
        Check.due("two could be", desk.flow(3), 6);
        Check.due("one was", desk.used(2), 4);
    }

    private static void usedOfLastRunOnly() {
        FlowDesk desk = ran();
        desk.run(1);
        Check.due("the outer call", desk.used(5), 0);
        Check.due("the inner call", desk.used(7), 0);
        desk.run(9);
        Check.due("the outer call", desk.used(5), 0);
        Check.due("the inner call", desk.used(7), 1);
    }

    /** Almost every step begins an expr that then waits for its first part. */
    private static void deepestWaits() {
        String deep = Check.times("(+", 35) + "(f(- n 1))" + Check.times(" 1)", 35);
        // A turn: if, n, 35 sums, the call, f, -, n and 1; on the way back 35 ones.
        Check.dueRun("((fix f n(if n" + deep + "0)) 25)", A_NUMBER, 25 * 35, 3 + 25 * (2 + 35 + 5 + 35) + 3);
        Check.dueRun("((fix f n(if n" + deep + "0)) 26)", MORE, 0, 2000);
        Check.dueRun("((fix f n(if n" + deep + "0)) -1)", MORE, 0, 2000);
        String calls = Check.times("(", 37) + "(f x)" + Check.times("1)", 37);
        Check.dueRun("((fix f x" + calls + ") 1)", MORE, 0, 2000);
        String lets = Check.times("(let a", 37) + "(f x)" + Check.times("1)", 37);
        Check.dueRun("((fix f x" + lets + ") 1)", MORE, 0, 2000);
        String choices = Check.times("(if", 37) + "(f x)" + Check.times("1 2)", 37);
        Check.dueRun("((fix f x" + choices + ") 1)", MORE, 0, 2000);
    }

    /** Two steps a binding, as few as can be, to the last. */
    private static void mostBindings() {
        String lets = Check.times("(let a n", 37);
        Check.dueRun("((fix f n" + lets + "(f a)" + Check.times(")", 37) + ") 1)", MORE, 0, 2000);
        String down = Check.times("(let a 1", 35) + "(f(- n a))" + Check.times(")", 35);
        Check.dueRun("((fix f n(if n" + down + "n)) 25)", A_NUMBER, 0, 3 + 25 * (2 + 70 + 5) + 3);
    }

    // "closures (a FUNCTION with the VALUES of what is free in it)"
    private static void valuesThatStay() {
        dueNumber("(let x 1 (let f \\y.x (let x 2 (f 3))))", 1);
        dueNumber("(let m \\x.\\y.(- x y) (let a (m 10) (let b (m 20) (+ (a 1) (* 100 (b 2))))))", 9 + 1800);
        dueNumber("(let g (fix f x \\y.(if y (f y) x)) (let h (g 1) (let k (h 2) (+ ((k 3) 0) (* 10 (h 0))))))", 13);
        Check.dueRun("(let m \\x.(fix f y (if y f x)) (((m 5) 1) 1))", A_CLOSURE, 1, 16);
        dueNumber("(let m \\x.(fix f y (if y f x)) ((((m 5) 1) 1) 0))", 5);
    }
}
