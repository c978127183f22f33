/** The boundaries of promises 5 (told), 6 (expr) and 9 (function). */
public final class TellEdgeTest {
    private static final int NONE = FlowDesk.NONE, BAD = FlowDesk.BAD;
    private static final int[] FAR = {Integer.MIN_VALUE, Integer.MIN_VALUE + 1, -256, 256, 1 << 16, Integer.MAX_VALUE - 1, Integer.MAX_VALUE};

    public static void main(String[] args) {
        toldFrom0To7();
        toldOfTheSmallest();
        toldOfTheLargest();
        toldWithoutProgram();
        toldOfSingleCalls();
        toldOfLimitedCalls();
        stepsWithoutRun();
        stepsOfRefusedCalls();
        exprFrom0To7();
        exprFromTheFirstToTheLast();
        exprOfTheFirst();
        exprPartsThatAreNot();
        exprValuesLikeNone();
        exprFunctionOfOthers();
        exprInsideOfNone();
        functionFrom0To6();
        functionFromTheFirstToTheLast();
        functionFOfALambda();
        functionWithNothingFree();
        functionInNoCall();
        functionThatReachesItself();
        numbersOfAnOlderProgram();
        askingChangesNothing();
        Check.end();
    }

    // "BAD: there is no such .. number to be told"
    private static void toldFrom0To7() {
        FlowDesk desk = Check.program("(let a 1 (\\x.x 2))");
        int[] want = {6, 1, 2, 1, 1, 1, 1, 0};
        for (int what = 0; what < 8; what++) {
            Check.due("told(" + what + ")", desk.told(what), want[what]);
        }
        Check.due("told(-1)", desk.told(-1), BAD);
        Check.due("told(8)", desk.told(8), BAD);
        for (int what : FAR) {
            Check.due("told(" + what + ")", desk.told(what), BAD);
        }
    }

    private static void toldOfTheSmallest() {
        FlowDesk desk = Check.program("0");
        for (int what = 0; what < 8; what++) {
            Check.due("told(" + what + ") of 0", desk.told(what), what == 0 ? 1 : 0);
        }
    }

    private static void toldOfTheLargest() {
        FlowDesk desk = Check.program("\\x." + Check.calls(100));
        Check.due("exprs", desk.told(0), 200);
        Check.due("calls", desk.told(3), 99);
        Check.due("no single calls", desk.told(4), 0);
        desk = Check.program("(" + Check.times("\\x.", 25) + "1" + Check.times("\\x.", 25) + "1)");
        Check.due("functions", desk.told(1), 50);
        Check.due("variables", desk.told(2), 50);
        desk = Check.program("(let f \\x.x" + Check.times("(f", 38) + " 1" + Check.times(")", 39));
        Check.due("calls", desk.told(3), 38);
        Check.due("single calls", desk.told(4), 38);
        Check.due("calls that can be inlined", desk.told(5), 38);
        desk = Check.program(Check.times("(let a 1", 40) + "-1" + Check.times(")", 40));
        Check.due("lets that can be dropped", desk.told(6), 40);
    }

    // "BAD: .. no program was read."
    private static void toldWithoutProgram() {
        FlowDesk desk = Check.typed("(+ 1 2)");
        for (int what = -1; what <= 8; what++) {
            Check.due("told(" + what + ") before read", desk.told(what), BAD);
            Check.due("expr(0, " + what + ") before read", desk.expr(0, what), BAD);
            Check.due("function(0, " + what + ") before read", desk.function(0, what), BAD);
        }
        desk.read();
        Check.due("told(0) behind read", desk.told(0), 3);
    }

    // "A CALL is SINGLE if the FLOW of its OPERATOR has just one FUNCTION."
    private static void toldOfSingleCalls() {
        Check.due("none", Check.program("(1 2)").told(4), 0);
        Check.due("one", Check.program("(\\x.x 2)").told(4), 1);
        Check.due("two", Check.program("((if 1 \\x.x \\y.y) 2)").told(4), 0);
        Check.due("one of a number and a function", Check.program("((if 1 3 \\y.y) 2)").told(4), 1);
    }

    /** What the limits refuse can be inlined all the same, as far as "To INLINE a CALL" goes. */
    private static void toldOfLimitedCalls() {
        FlowDesk desk = Check.program("(let f \\x." + Check.times("\\y.", 30) + "1(f\\z.1))");
        Check.due("functions", desk.told(1), 32);
        Check.due("calls that can be inlined", desk.told(5), 1);
        Check.due("but there would be 62 functions", desk.inline(33), NONE);
        Check.due("calls that can be inlined", desk.told(5), 1);
    }

    // "STEPS of the last run since the program is as it is (7; 0 without)"
    private static void stepsWithoutRun() {
        FlowDesk desk = Check.program("(let a 1 (\\x.x 2))");
        Check.due("no run", desk.told(7), 0);
        desk.run(1);
        Check.due("a run of one", desk.told(7), 1);
        desk.run(2000);
        Check.due("a whole run", desk.told(7), 6);
        desk.read();
        Check.due("read since", desk.told(7), 0);
        desk.run(2000);
        desk.inline(2);
        Check.due("inlined since", desk.told(7), 0);
        desk.run(2000);
        Check.due("a run of it", desk.told(7), 5);
        desk.drop(0);
        Check.due("dropped since", desk.told(7), 0);
    }

    private static void stepsOfRefusedCalls() {
        FlowDesk desk = Check.program("(let a (+ 1 2) ((fix f x x) 2))");
        desk.run(2000);
        desk.inline(0);
        desk.inline(5);
        desk.inline(-1);
        desk.drop(0);
        desk.drop(1);
        desk.drop(99);
        desk.run(0);
        desk.run(2001);
        desk.write();
        desk.clear();
        desk.read();
        Check.due("the run stays", desk.told(7), 8);
        Check.due("and its result", desk.result(), 2);
    }

    private static void exprFrom0To7() {
        FlowDesk desk = Check.program("\\x.(if x 1 2)");
        int[] want = {4, NONE, 0, 2, 3, 4, NONE, 0};
        for (int what = 0; what < 8; what++) {
            Check.due("expr(1, " + what + ")", desk.expr(1, what), want[what]);
        }
        Check.due("expr(1, -1)", desk.expr(1, -1), BAD);
        Check.due("expr(1, 8)", desk.expr(1, 8), BAD);
        for (int what : FAR) {
            Check.due("expr(1, " + what + ")", desk.expr(1, what), BAD);
            Check.due("expr(" + what + ", 0)", desk.expr(what, 0), BAD);
            Check.due("expr(" + what + ", " + what + ")", desk.expr(what, what), BAD);
        }
    }

    // "BAD: there is no such LABEL"
    private static void exprFromTheFirstToTheLast() {
        String[] texts = {"1", "\\x.x", "(if 1 2 3)", "\\x." + Check.calls(100)};
        for (String text : texts) {
            FlowDesk desk = Check.program(text);
            int exprs = desk.told(0);
            for (int what = 0; what < 8; what++) {
                Check.due("the first", desk.expr(0, what) == BAD ? 1 : 0, 0);
                Check.due("the last", desk.expr(exprs - 1, what) == BAD ? 1 : 0, 0);
                Check.due("one before the first", desk.expr(-1, what), BAD);
                Check.due("one behind the last", desk.expr(exprs, what), BAD);
            }
        }
    }

    // "the LABEL of the expr it is part of (NONE of the first)"
    private static void exprOfTheFirst() {
        String[] texts = {"1", "\\x.x", "(fix f x f)", "(if 1 2 3)", "(let x 1 2)", "(+ 1 2)", "(1 2)"};
        for (String text : texts) {
            FlowDesk desk = Check.program(text);
            Check.due("the first of " + text, desk.expr(0, 2), NONE);
            for (int label = 1; label < desk.told(0); label++) {
                Check.due("label " + label + " of " + text, desk.expr(label, 2), 0);
            }
        }
    }

    // "3 to 5 those of its own parts (NONE: it has not so many)"
    private static void exprPartsThatAreNot() {
        String[] texts = {"1", "\\x.1", "(fix f x 1)", "(if 1 2 3)", "(let x 1 2)", "(+ 1 2)", "(- 1 2)", "(* 1 2)", "(= 1 2)", "(< 1 2)", "(1 2)"};
        int[] parts = {0, 1, 1, 3, 2, 2, 2, 2, 2, 2, 2};
        for (int i = 0; i < texts.length; i++) {
            FlowDesk desk = Check.program(texts[i]);
            for (int part = 0; part < 3; part++) {
                Check.due("part " + part + " of " + texts[i], desk.expr(0, 3 + part), part < parts[i] ? 1 + part : NONE);
            }
        }
        Check.due("a name's part", Check.program("\\x.x").expr(1, 3), NONE);
    }

    // "the VARIABLE it means or binds (of fix x), the NUMBER, NONE of others"
    private static void exprValuesLikeNone() {
        Check.due("a number that is as NONE", Check.program("-1").expr(0, 1), -1);
        Check.due("a number that is as BAD", Check.program("-2").expr(0, 1), -2);
        Check.due("the lowest", Check.program("-999999").expr(0, 1), -999999);
        Check.due("the highest", Check.program("999999").expr(0, 1), 999999);
        Check.due("of fix x", Check.program("(fix f x 1)").expr(0, 1), 1);
        Check.due("of a let", Check.program("(let x 1 2)").expr(0, 1), 0);
        String[] others = {"(if 1 2 3)", "(+ 1 2)", "(- 1 2)", "(* 1 2)", "(= 1 2)", "(< 1 2)", "(1 2)"};
        for (String other : others) {
            Check.due("the value of " + other, Check.program(other).expr(0, 1), NONE);
        }
    }

    // "its FUNCTION (NONE but of \ and fix)"
    private static void exprFunctionOfOthers() {
        Check.due("of \\", Check.program("\\x.1").expr(0, 6), 0);
        Check.due("of fix", Check.program("(fix f x 1)").expr(0, 6), 0);
        String[] others = {"1", "(if 1 2 3)", "(let x 1 2)", "(+ 1 2)", "(- 1 2)", "(* 1 2)", "(= 1 2)", "(< 1 2)", "(1 2)"};
        for (String other : others) {
            Check.due("of " + other, Check.program(other).expr(0, 6), NONE);
            Check.due("of " + other + " in a function", Check.program("\\x." + other).expr(1, 6), NONE);
        }
        Check.due("of a name", Check.program("\\x.x").expr(1, 6), NONE);
        Check.due("the 50th", Check.program("(" + Check.times("\\x.", 25) + "1" + Check.times("\\x.", 25) + "1)").expr(51, 6), 49);
    }

    // "the FUNCTION in whose body it stands, the innermost one (NONE: in none)"
    private static void exprInsideOfNone() {
        FlowDesk desk = Check.program("(\\x.(fix f y (f x)) (let z 1 z))");
        int[] want = {NONE, NONE, 0, 1, 1, 1, NONE, NONE, NONE};
        for (int label = 0; label < want.length; label++) {
            Check.due("expr(" + label + ", 7)", desk.expr(label, 7), want[label]);
        }
    }

    // "BAD: there is no such .. FUNCTION"
    private static void functionFrom0To6() {
        FlowDesk desk = Check.program("(let a 1 ((fix f x (f a)) 2))");
        int[] want = {3, 4, 2, 1, 1, 2, 1};
        for (int what = 0; what < 7; what++) {
            Check.due("function(0, " + what + ")", desk.function(0, what), want[what]);
        }
        Check.due("function(0, -1)", desk.function(0, -1), BAD);
        Check.due("function(0, 7)", desk.function(0, 7), BAD);
        for (int what : FAR) {
            Check.due("function(0, " + what + ")", desk.function(0, what), BAD);
            Check.due("function(" + what + ", 0)", desk.function(what, 0), BAD);
        }
    }

    private static void functionFromTheFirstToTheLast() {
        for (int n = 1; n <= 40; n++) {
            FlowDesk desk = Check.program(Check.times("\\x.", n) + "x");
            Check.due("the last of " + n, desk.function(n - 1, 0), n - 1);
            Check.due("its body", desk.function(n - 1, 1), n);
            Check.due("its x", desk.function(n - 1, 2), n - 1);
            for (int what = 0; what < 7; what++) {
                Check.due("one behind the last of " + n, desk.function(n, what), BAD);
                Check.due("one before the first", desk.function(-1, what), BAD);
            }
        }
        for (int what = 0; what < 7; what++) {
            Check.due("no function at all", Check.program("1").function(0, what), BAD);
        }
    }

    // "its f (NONE of \)"
    private static void functionFOfALambda() {
        FlowDesk desk = Check.program("(\\x.x (fix x x x))");
        Check.due("of \\", desk.function(0, 3), NONE);
        Check.due("of fix", desk.function(1, 3), 1);
        Check.due("and its x", desk.function(1, 2), 2);
    }

    // "how many VARIABLES are free in it"
    private static void functionWithNothingFree() {
        Check.due("its own x", Check.program("\\x.x").function(0, 4), 0);
        Check.due("its own f", Check.program("(fix f x (f x))").function(0, 4), 0);
        Check.due("its own let", Check.program("\\x.(let y x y)").function(0, 4), 0);
        Check.due("one", Check.program("(let a 1 \\x.a)").function(0, 4), 1);
        Check.due("one, met twice", Check.program("(let a 1 \\x.(+ a a))").function(0, 4), 1);
        Check.due("one hidden", Check.program("(let a 1 \\x.(let a 2 a))").function(0, 4), 0);
        Check.due("one in the hiding let's first", Check.program("(let a 1 \\x.(let a a a))").function(0, 4), 1);
        Check.due("one of the function within", Check.program("(let a 1 \\x.\\y.a)").function(0, 4), 1);
        FlowDesk desk = Check.program(Check.times("(let a 1 ", 19) + "(let a 1 \\x.a)" + Check.times(")", 19));
        Check.due("twenty of one name", desk.function(0, 4), 1);
        String sum = "(+ x0 (+ x1 (+ x2 (+ x3 (+ x4 (+ x5 (+ x6 (+ x7 (+ x8 y)))))))))";
        StringBuilder lets = new StringBuilder();
        for (int i = 0; i < 9; i++) {
            lets.append("(let x").append(i).append(" 1 ");
        }
        Check.due("nine", Check.program(lets + "\\y." + sum + Check.times(")", 9)).function(0, 4), 9);
    }

    // "in how many CALLS' OPERATORS it flows"
    private static void functionInNoCall() {
        Check.due("none", Check.program("\\x.x").function(0, 5), 0);
        Check.due("only an argument", Check.program("(1 \\x.x)").function(0, 5), 0);
        Check.due("one", Check.program("(\\x.x 1)").function(0, 5), 1);
        FlowDesk desk = Check.program("(let f \\x.x" + Check.times("(f", 38) + " 1" + Check.times(")", 39));
        Check.due("38", desk.function(0, 5), 38);
        desk = Check.program("((if 1 \\x.x \\y.y) 2)");
        Check.due("one of two", desk.function(0, 5) + desk.function(1, 5), 2);
    }

    // "whether it REACHES itself (1, 0)"
    private static void functionThatReachesItself() {
        Check.due("no call", Check.program("\\x.x").function(0, 6), 0);
        Check.due("itself", Check.program("(fix f x (f x))").function(0, 6), 1);
        Check.due("only within another", Check.program("(fix f x \\y.(f x))").function(0, 6), 0);
        FlowDesk desk = Check.program("(fix f x (\\y.(f y) x))");
        Check.due("through another", desk.function(0, 6), 1);
        Check.due("and that one", desk.function(1, 6), 1);
    }

    private static void numbersOfAnOlderProgram() {
        FlowDesk desk = Check.readInPlace("(let a \\x.(x x) (fix f y (f (a y))))", "7");
        State.dueSame("behind another program", () -> Check.readInPlace("(let a \\x.(x x) (fix f y (f (a y))))", "7"),
            () -> Check.program("7"));
        for (int label = 1; label < 11; label++) {
            Check.due("no old label", desk.expr(label, 0), BAD);
        }
        Check.due("no old function", desk.function(0, 0), BAD);
    }

    private static void askingChangesNothing() {
        State.dueSame("behind many questions", () -> {
            FlowDesk desk = shortRun();
            for (int i = -2; i <= 11; i++) {
                askAll(desk, i);
            }
            return desk;
        }, TellEdgeTest::shortRun);
    }

    private static FlowDesk shortRun() {
        FlowDesk desk = Check.program("(let f \\x.(+ x 1) (f (f 3)))");
        desk.run(5);
        return desk;
    }

    private static void askAll(FlowDesk desk, int i) {
        desk.told(i);
        desk.expr(i, i);
        desk.function(i, i);
        desk.flow(i);
        desk.flows(i);
        desk.reaches(i, i);
        desk.single(i);
        desk.used(i);
        desk.out(i);
    }
}
