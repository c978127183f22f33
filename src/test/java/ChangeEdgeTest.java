import java.util.function.Supplier;

/** The boundaries of promises 15 (inline) and 16 (drop). */
public final class ChangeEdgeTest {
    private static final int NONE = FlowDesk.NONE, BAD = FlowDesk.BAD, CALL = 11;
    private static final int[] FAR = {Integer.MIN_VALUE, -256, -2, -1, 199, 200, 256, 1 << 16, Integer.MAX_VALUE};

    public static void main(String[] args) {
        inlineOnlyOfSingles();
        inlineOnlyOfLambdas();
        inlineWithNothingFree();
        inlineOfWhatDoesNotReachItself();
        inlineOperatorIsANameOrLambda();
        inlineOfNoCall();
        inlineWithoutProgram();
        inlineTo200Exprs();
        inlineTo50Functions();
        inlineWithFunctionsBeside();
        inlineTo100Variables();
        inlineAtAllLimits();
        inlineTheWholeProgram();
        inlineCopiesOfTheirOwn();
        inlineTwice();
        inlineLeavesTheText();
        dropWhatIsMetNowhere();
        dropOnlyOfThese();
        dropOfNoLet();
        dropWithoutProgram();
        dropTheWholeProgram();
        dropFirstAndLast();
        dropThenNoMore();
        dropThenInline();
        dropLeavesTheText();
        numberedAnew();
        Check.end();
    }

    /** A program that was run, with another text behind it. */
    private static FlowDesk ran(String text) {
        FlowDesk desk = Check.program(text);
        desk.run(2000);
        Check.retype(desk, "(+ 1 2");
        return desk;
    }

    private static void dueNotInlined(String text, int label, int want) {
        State.dueRefused("inline(" + label + ") of " + text, () -> ran(text), desk -> desk.inline(label), want);
    }

    private static void dueNotDropped(String text, int label, int want) {
        State.dueRefused("drop(" + label + ") of " + text, () -> ran(text), desk -> desk.drop(label), want);
    }

    private static void dueInlined(String text, int label, String want) {
        State.dueBecomes("inline(" + label + ") of " + text, () -> ran(text), desk -> desk.inline(label), want);
    }

    private static void dueDropped(String text, int label, String want) {
        State.dueBecomes("drop(" + label + ") of " + text, () -> ran(text), desk -> desk.drop(label), want);
    }

    // "it is SINGLE"
    private static void inlineOnlyOfSingles() {
        dueNotInlined("(let f 1 (f 2))", 2, NONE);
        dueInlined("(let f \\x.x (f 2))", 3, "(let v0 \\v1.v1 (let v2 2 v2))");
        dueNotInlined("(let f (if 1 \\x.x \\y.y) (f 2))", 7, NONE);
        dueNotInlined("(let i \\h.(h 1) (+ (i \\x.x) (i \\y.y)))", 2, NONE);
        dueInlined("(let i \\h.(h 1) (+ (i \\x.x) 2))", 2, "(let v0 \\v1.(let v2 1 v2) (+ (v0 \\v3.v3) 2))");
        dueInlined("(let f (if 1 2 \\y.y) (f 2))", 6, "(let v0 (if 1 2 \\v1.v1) (let v2 2 v2))");
    }

    // "with a FUNCTION t that is a \"
    private static void inlineOnlyOfLambdas() {
        dueNotInlined("((fix f x x) 1)", 0, NONE);
        dueNotInlined("(let g (fix f x x) (g 1))", 3, NONE);
        dueNotInlined("(fix f x (f x))", 1, NONE);
        dueInlined("(\\x.(fix f y x) 1)", 0, "(let v0 1 (fix v1 v2 v0))");
    }

    // "has nothing free"
    private static void inlineWithNothingFree() {
        dueNotInlined("(let z 1 (\\x.z 2))", 2, NONE);
        dueNotInlined("\\z.(\\x.z 2)", 1, NONE);
        dueNotInlined("(fix f z (\\x.(f x) 2))", 1, NONE);
        dueNotInlined("(let z 1 (\\x.\\y.z 2))", 2, NONE);
        dueInlined("(let z 1 (\\z.z z))", 2, "(let v0 1 (let v1 v0 v1))");
        dueInlined("(let z 1 (\\x.(let z x z) z))", 2, "(let v0 1 (let v1 v0 (let v2 v1 v2)))");
        dueInlined("\\z.(\\x.\\z.z z)", 1, "\\v0.(let v1 v0 \\v2.v2)");
    }

    // "and does not REACH itself"
    private static void inlineOfWhatDoesNotReachItself() {
        dueNotInlined("(let w \\x.(x x) (w w))", 5, NONE);
        dueNotInlined("(let w \\x.(\\y.(y x) x) (w w))", 8, NONE);
        dueNotInlined("(\\x.(x x) \\y.(y y))", 2, NONE);
        dueInlined("(\\x.(x x) \\y.(y y))", 0, "(let v0 \\v1.(v1 v1) (v0 v0))");
        dueInlined("(let w \\x.(x 1) (w \\y.y))", 5, "(let v0 \\v1.(v1 1) (let v2 \\v3.v3 (v2 1)))");
        // The call of it stands in a function within: it does not call itself.
        dueInlined("(let t \\x.\\y.(x y) (t t))", 6, "(let v0 \\v1.\\v2.(v1 v2) (let v3 v0 \\v4.(v3 v4)))");
        dueInlined("(let t \\x.\\y.(x y) (t t))", 3, "(let v0 \\v1.\\v2.(let v3 v2 \\v4.(v3 v4)) (v0 v0))");
    }

    // "and the OPERATOR is a NAME or a \"
    private static void inlineOperatorIsANameOrLambda() {
        dueInlined("(\\x.x 1)", 0, "(let v0 1 v0)");
        dueInlined("(let f \\x.x (f 1))", 3, "(let v0 \\v1.v1 (let v2 1 v2))");
        dueInlined("(\\f.(f 1) \\x.x)", 2, "(\\v0.(let v1 1 v1) \\v2.v2)");
        dueNotInlined("((let f \\x.x f) 1)", 0, NONE);
        dueNotInlined("((if 1 \\x.x 2) 1)", 0, NONE);
        dueNotInlined("((\\x.x \\y.y) 1)", 0, NONE);
        dueNotInlined("((fix f x x) 1)", 0, NONE);
        dueNotInlined("((+ 1 \\x.x) 1)", 0, NONE);
        dueNotInlined("(1 2)", 0, NONE);
    }

    // "BAD: there is no such CALL"
    private static void inlineOfNoCall() {
        String[] texts = {"1", "\\x.x", "(fix f x f)", "(if 1 2 3)", "(let x 1 x)", "(+ 1 2)", "(- 1 2)", "(* 1 2)", "(= 1 2)", "(< 1 2)"};
        for (String text : texts) {
            for (int label = 0; label <= 4; label++) {
                dueNotInlined(text, label, BAD);
            }
        }
        for (int label : FAR) {
            dueNotInlined("(\\x.x 2)", label, BAD);
        }
        for (int label = 1; label <= 4; label++) {
            dueNotInlined("(\\x.x 2)", label, BAD);
        }
    }

    private static void inlineWithoutProgram() {
        State.dueRefused("inline", () -> Check.typed("(\\x.x 2)"), desk -> desk.inline(0), BAD);
    }

    /** A sum of n ones has 2 n - 1 exprs. */
    private static String sum(int n) {
        return n == 1 ? "1" : "(+" + sum(n / 2) + (n < 4 ? " " : "") + sum(n - n / 2) + ")";
    }

    // "or there would be more exprs .. than may be"
    private static void inlineTo200Exprs() {
        // let, \, a body of 63 exprs and a call with an argument of 71: with the copy 200, with a \ round all 201.
        String near = "(let f \\x." + sum(32) + "(f " + sum(36) + "))";
        int call = 1 + 1 + 63;
        Check.due("exprs", Check.program(near).told(0), 138);
        Check.due("inline to 200", Check.program(near).inline(call), 138 - 1 + 63);
        Supplier<FlowDesk> over = () -> ran("\\y." + near);
        Check.due("exprs", over.get().told(0), 139);
        State.dueRefused("inline to 201", over, desk -> desk.inline(call + 1), NONE);
        Check.due("it can be inlined", over.get().told(5), 1);
        // The operator's own body goes, so nothing is too much.
        FlowDesk desk = Check.program("(if 1(\\x." + Check.calls(97) + "1)2)");
        Check.due("exprs", desk.told(0), 199);
        Check.due("inline", desk.inline(2), 198);
        desk = Check.program("(if 1(\\x." + Check.calls(97) + "\\y.1)2)");
        Check.due("exprs", desk.told(0), 200);
        Check.due("inline at 200", desk.inline(2), 199);
        Check.due("its last", desk.expr(198, 1), 2);
    }

    /** A function with so many others in its body, called once; so many stand round all. */
    private static String nest(int round, int inner, String argument) {
        return Check.times("\\u.", round) + "(let f \\x." + Check.times("\\y.", inner) + "1(f" + argument + "))";
    }

    // ".. FUNCTIONS .."
    private static void inlineTo50Functions() {
        for (int round = 0; round <= 3; round++) {
            // round + \x + inner, and inner once more.
            String text = nest(round, 24, " 1");
            int call = round + 1 + 1 + 24 + 1;
            int then = round + 1 + 24 + 24;
            if (then <= 50) {
                FlowDesk desk = Check.program(text);
                Check.due("inline to functions " + then, desk.inline(call), round + 1 + 1 + 25 + 2 + 25);
                Check.due("functions", desk.told(1), then);
                Check.due("the last one's label", desk.function(then - 1, 0), desk.told(0) - 2);
                Check.due("no more", desk.function(then, 0), BAD);
            } else {
                dueNotInlined(text, call, NONE);
            }
        }
        // With all 50 there a body without functions is put in place.
        FlowDesk desk = Check.program("(let f \\x.x(f(" + Check.times("\\y.", 25) + "1" + Check.times("\\y.", 24) + "1)))");
        Check.due("functions", desk.told(1), 50);
        Check.due("inline at 50", desk.inline(3), 3 + 1 + 1 + 26 + 25 + 1);
        Check.due("functions", desk.told(1), 50);
    }

    /** Neither what stands right behind the body nor the argument is counted for what it is not. */
    private static void inlineWithFunctionsBeside() {
        dueNotInlined(nest(1, 24, "\\z.1"), 28, NONE);
        FlowDesk desk = Check.program(nest(0, 24, "\\z.1"));
        Check.due("an argument that is a function", desk.inline(27), 1 + 1 + 25 + 1 + 2 + 25);
        Check.due("functions", desk.told(1), 50);
        // The body ends right before another function.
        desk = Check.program("(let f \\x." + Check.times("\\y.", 24) + "1\\z.(f 1))");
        Check.due("a function behind the body", desk.inline(28), 1 + 1 + 25 + 1 + 2 + 25);
        Check.due("functions", desk.told(1), 50);
        dueNotInlined("\\u.(let f \\x." + Check.times("\\y.", 24) + "1\\z.(f 1))", 29, NONE);
        desk = Check.program("(let f \\x." + fixes(24) + "\\z.(f 1))");
        Check.due("a fix for each", desk.inline(28), 1 + 1 + 25 + 1 + 2 + 25);
        Check.due("functions", desk.told(1), 50);
        Check.due("variables", desk.told(2), 1 + 1 + 48 + 1 + 1 + 48);
        dueNotInlined("(let u 1(let f \\x." + fixes(24) + "\\z.(f 1)))", 30, NONE);
    }

    private static String fixes(int n) {
        return Check.times("(fix f y", n) + " 1" + Check.times(")", n);
    }

    /** Thirteen calls of a function with three fixes: each that is inlined brings seven variables. */
    private static FlowDesk thirteenCalls(int round, String argument) {
        String calls = Check.times("(+(f" + argument + ")", 12) + "(f" + argument + ")" + Check.times(")", 12);
        return Check.program(Check.times("(let u 1", round) + "(let f \\x." + fixes(3) + calls + ")" + Check.times(")", round));
    }

    private static FlowDesk inlined(FlowDesk desk, int most) {
        int left = most;
        int exprs = desk.told(0);
        for (int label = 0; label < exprs && left > 0; label++) {
            int then = desk.expr(label, 0) == CALL ? desk.inline(label) : NONE;
            left -= then > 0 ? 1 : 0;
            exprs = Math.max(exprs, then);
        }
        Check.due("so many were inlined", most - left, most);
        return desk;
    }

    // ".. or VARIABLES than may be."
    private static void inlineTo100Variables() {
        FlowDesk desk = inlined(thirteenCalls(1, " 1"), 13);
        Check.due("variables", desk.told(2), 100);
        Check.due("functions are no limit here", desk.told(1), 43);
        Check.due("the last one", desk.function(42, 2), 99);
        Check.due("the last one's f", desk.function(42, 3), 98);
        Check.due("its flow", desk.flows(98), 1L << 42);
        Check.due("no more", desk.flows(100), 0);
        Supplier<FlowDesk> over = () -> inlined(thirteenCalls(2, " 1"), 12);
        Check.due("variables", over.get().told(2), 94);
        int last = over.get().told(0) - 3;
        Check.due("the last call", over.get().expr(last, 0), CALL);
        State.dueRefused("inline to 101 variables", over, at -> at.inline(last), NONE);
        Check.due("it can be inlined", over.get().told(5), 1);
        // A let in the argument is neither gone nor doubled.
        desk = inlined(thirteenCalls(0, " 1"), 12);
        Check.due("variables", desk.told(2), 92);
        Check.due("the 13th", desk.inline(desk.told(0) - 3), desk.told(0));
        Check.due("variables", desk.told(2), 99);
    }

    private static void inlineAtAllLimits() {
        // 99 variables by thirteen calls, and the last call's argument is a call of a \ with a variable of its own.
        String text = "(let f \\x." + fixes(3) + Check.times("(+(f 1)", 12) + "(f(\\u.u 1))" + Check.times(")", 13);
        FlowDesk desk = inlined(Check.program(text), 14);
        Check.due("variables", desk.told(2), 100);
        Check.due("no call is left", desk.told(3), 0);
        Check.due("variables met", desk.told(6), 13);
    }

    private static void inlineTheWholeProgram() {
        dueInlined("(\\x.1 2)", 0, "(let v0 2 1)");
        dueInlined("(\\x.x \\y.y)", 0, "(let v0 \\v1.v1 v0)");
        dueInlined("(+ 1 (\\x.x 2))", 2, "(+ 1 (let v0 2 v0))");
        dueInlined("(+ (\\x.x 2) 1)", 1, "(+ (let v0 2 v0) 1)");
    }

    // "x and the body being copies with VARIABLES of their own"
    private static void inlineCopiesOfTheirOwn() {
        dueInlined("(let f \\x.(let y x (fix g z (g y))) (f (f 1)))", 8,
            "(let v0 \\v1.(let v2 v1 (fix v3 v4 (v3 v2))) (let v5 (v0 1) (let v6 v5 (fix v7 v8 (v7 v6)))))");
        dueInlined("(let f \\x.\\y.(x y) (f \\z.z))", 6, "(let v0 \\v1.\\v2.(v1 v2) (let v3 \\v4.v4 \\v5.(v3 v5)))");
        dueInlined("(\\a.\\b.(\\c.(c c) (\\d.d a)) 1)", 0, "(let v0 1 \\v1.(\\v2.(v2 v2) (\\v3.v3 v0)))");
        dueInlined("\\a.(let b a (\\x.(let y x (+ y x)) (+ b a)))", 3, "\\v0.(let v1 v0 (let v2 (+ v1 v0) (let v3 v2 (+ v3 v2))))");
    }

    private static void inlineTwice() {
        FlowDesk desk = Check.program("(\\x.x (\\y.y 1))");
        Check.due("the inner one", desk.inline(3), 6);
        Check.due("it is a let now", desk.inline(3), BAD);
        Check.due("the outer one", desk.inline(0), 5);
        Check.due("it is a let now", desk.inline(0), BAD);
        Check.due("written", Check.written(desk), "(let v0 (let v1 1 v1) v0)");
    }

    private static void inlineLeavesTheText() {
        FlowDesk desk = ran("(\\x.x 2)");
        Check.due("inline", desk.inline(0), 3);
        Check.due("the text", Check.text(desk, 6), "(+ 1 2");
        Check.due("its bytes", desk.clear(), 6);
    }

    // "its VARIABLE is met nowhere"
    private static void dropWhatIsMetNowhere() {
        dueDropped("(let a 1 2)", 0, "2");
        dueNotDropped("(let a 1 a)", 0, NONE);
        dueNotDropped("(let a 1 (if 0 a 2))", 0, NONE);
        dueNotDropped("(let a 1 \\x.(let b a x))", 0, NONE);
        dueDropped("(let a 1 (let a 2 a))", 0, "(let v0 2 v0)");
        dueNotDropped("(let a 1 (let a a 2))", 0, NONE);
        dueDropped("(let a 1 (let a a 2))", 2, "(let v0 1 2)");
        dueDropped("(let a 1 (let b a 3))", 2, "(let v0 1 3)");
        dueDropped("(let a 1 \\a.a)", 0, "\\v0.v0");
        dueDropped("(let a 1 (fix a x a))", 0, "(fix v0 v1 v0)");
    }

    // "its first expr is a NAME, a NUMBER or a FUNCTION"
    private static void dropOnlyOfThese() {
        dueDropped("\\a.(let b a 2)", 1, "\\v0.2");
        dueDropped("(let b -1 2)", 0, "2");
        dueDropped("(let b \\x.(x x) 2)", 0, "2");
        dueDropped("(let b (fix f x (f x)) 2)", 0, "2");
        String[] others = {"(if 1 2 3)", "(let x 1 2)", "(+ 1 2)", "(- 1 2)", "(* 1 2)", "(= 1 2)", "(< 1 2)", "(\\x.x 2)", "(1 2)"};
        for (String other : others) {
            dueNotDropped("(let b " + other + " 2)", 0, NONE);
        }
    }

    // "BAD: there is no such let"
    private static void dropOfNoLet() {
        String[] texts = {"1", "\\x.x", "(fix f x f)", "(if 1 2 3)", "(+ 1 2)", "(- 1 2)", "(* 1 2)", "(= 1 2)", "(< 1 2)", "(\\x.x 1)"};
        for (String text : texts) {
            for (int label = 0; label <= 4; label++) {
                dueNotDropped(text, label, BAD);
            }
        }
        for (int label : FAR) {
            dueNotDropped("(let a 1 2)", label, BAD);
        }
        for (int label = 1; label <= 3; label++) {
            dueNotDropped("(let a 1 2)", label, BAD);
        }
    }

    private static void dropWithoutProgram() {
        State.dueRefused("drop", () -> Check.typed("(let a 1 2)"), desk -> desk.drop(0), BAD);
    }

    private static void dropTheWholeProgram() {
        dueDropped("(let a 1 (let b 2 (let c 3 4)))", 0, "(let v0 2 (let v1 3 4))");
        dueDropped("(let a 1 (let b 2 (let c 3 4)))", 4, "(let v0 1 (let v1 2 4))");
        FlowDesk desk = Check.program("(let a 1\\x." + Check.calls(99) + ")");
        Check.due("exprs", desk.told(0), 200);
        Check.due("drop at 200", desk.drop(0), 198);
        Check.due("its last", desk.expr(197, 0), 1);
        Check.due("no more", desk.expr(198, 0), BAD);
    }

    private static void dropFirstAndLast() {
        dueDropped("(+ (let a 1 2) (let b 3 4))", 1, "(+ 2 (let v0 3 4))");
        dueDropped("(+ (let a 1 2) (let b 3 4))", 4, "(+ (let v0 1 2) 4)");
        dueDropped("(let a (let b 1 2) a)", 1, "(let v0 2 v0)");
        dueDropped("(\\x.(let b x x) 3)", 2, "(\\v0.v0 3)");
        dueDropped("(let b \\x.\\y.x \\z.z)", 0, "\\v0.v0");
    }

    private static void dropThenNoMore() {
        FlowDesk desk = Check.program("(let a 1 (let b a 2))");
        Check.due("the outer one is met", desk.drop(0), NONE);
        Check.due("lets that can be dropped", desk.told(6), 1);
        Check.due("the inner one", desk.drop(2), 3);
        Check.due("now the outer one is met nowhere", desk.told(6), 1);
        Check.due("the outer one", desk.drop(0), 1);
        Check.due("no let is left", desk.drop(0), BAD);
        Check.due("none to be dropped", desk.told(6), 0);
    }

    private static void dropThenInline() {
        // With the let gone the operator is a \, and the function is called from one place.
        FlowDesk desk = Check.program("((let a 1 \\x.x) 2)");
        Check.due("the operator is a let", desk.inline(0), NONE);
        Check.due("drop", desk.drop(1), 4);
        Check.due("the operator is a \\", desk.inline(0), 3);
        Check.due("written", Check.written(desk), "(let v0 2 v0)");
        desk = Check.program("\\z.(\\x.(let u z x) 1)");
        Check.due("z is free", desk.inline(1), NONE);
        Check.due("drop", desk.drop(3), 5);
        Check.due("nothing is free", desk.inline(1), 4);
    }

    private static void dropLeavesTheText() {
        FlowDesk desk = ran("(let a 1 2)");
        Check.due("drop", desk.drop(0), 1);
        Check.due("the text", Check.text(desk, 6), "(+ 1 2");
        Check.due("its bytes", desk.clear(), 6);
    }

    // "Behind each LABELS, FUNCTIONS, VARIABLES are numbered anew, as they stand."
    private static void numberedAnew() {
        FlowDesk desk = Check.program("(let a \\p.p (let b \\q.q (let c (fix f r r) (b c))))");
        Check.due("drop", desk.drop(0), 9);
        Check.due("b's function", desk.expr(1, 6), 0);
        Check.due("b's variable", desk.expr(0, 1), 0);
        Check.due("c's variable", desk.expr(3, 1), 2);
        Check.due("the fix's x", desk.function(1, 2), 4);
        Check.due("the call", desk.single(6), 0);
        Check.due("inline", desk.inline(6), 9);
        Check.due("the new let's variable", desk.expr(6, 1), 5);
        Check.due("what it answers", desk.flow(0), 2);
        Check.due("written", Check.written(desk), "(let v0 \\v1.v1 (let v2 (fix v3 v4 v4) (let v5 v2 v5)))");
    }
}
