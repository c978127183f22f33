/** Promises 15 (inline) and 16 (drop). */
public final class ChangeTest {
    private static final int NONE = FlowDesk.NONE, BAD = FlowDesk.BAD;

    public static void main(String[] args) {
        inlineNames();
        inlineLambdas();
        inlineWithin();
        inlineNumbersAnew();
        notInlined();
        inlineEdges();
        inlineExprLimit();
        inlineFunctionLimit();
        inlineVariableLimit();
        inlineBackwards();
        inlineDeep();
        dropping();
        notDropped();
        dropEdges();
        dropNumbersAnew();
        manyChanges();
        Check.end();
    }

    private static void dueInlined(String text, int label, String want) {
        State.dueBecomes("inline(" + label + ") of " + text, () -> Check.program(text), desk -> desk.inline(label), want);
    }

    private static void dueDropped(String text, int label, String want) {
        State.dueBecomes("drop(" + label + ") of " + text, () -> Check.program(text), desk -> desk.drop(label), want);
    }

    private static void dueNot(String text, int label, int want) {
        FlowDesk desk = Check.program(text);
        int exprs = desk.told(0);
        Check.due("inline(" + label + ") of " + text, desk.inline(label), want);
        Check.due("nothing is changed in " + text, desk.told(0), exprs);
    }

    private static void inlineNames() {
        dueInlined("(let f \\x.(+ x 1) (f (f 3)))", 5, "(let v0 \\v1.(+ v1 1) (let v2 (v0 3) (+ v2 1)))");
        dueInlined("(let f \\x.(+ x 1) (f (f 3)))", 7, "(let v0 \\v1.(+ v1 1) (v0 (let v2 3 (+ v2 1))))");
        dueInlined("(let f \\x.1 (f 2))", 3, "(let v0 \\v1.1 (let v2 2 1))");
        dueInlined("(\\f.(f 1) \\x.(+ x x))", 2, "(\\v0.(let v1 1 (+ v1 v1)) \\v2.(+ v2 v2))");
    }

    private static void inlineLambdas() {
        dueInlined("(\\x.x \\y.(y y))", 0, "(let v0 \\v1.(v1 v1) v0)");
        dueInlined("(\\x.(x x) \\x.(x x))", 0, "(let v0 \\v1.(v1 v1) (v0 v0))");
        dueInlined("(\\x.\\y.(x y) 1)", 0, "(let v0 1 \\v1.(v0 v1))");
        dueInlined("(\\x.(fix f y (let z x (f (z y)))) 1)", 0, "(let v0 1 (fix v1 v2 (let v3 v0 (v1 (v3 v2)))))");
        dueInlined("(\\x.3 4)", 0, "(let v0 4 3)");
        dueInlined("(+ (\\x.x 1) (\\y.y 2))", 5, "(+ (\\v0.v0 1) (let v1 2 v1))");
    }

    private static void inlineWithin() {
        // The call stands in an inner function of the very one that is put in its place.
        dueInlined("(let t \\x.\\y.(x y) (t t))", 3, "(let v0 \\v1.\\v2.(let v3 v2 \\v4.(v3 v4)) (v0 v0))");
        // The argument keeps its own variables, the body's copies are new.
        dueInlined("(let a 1 (let f \\x.(let a x (* a x)) (f (+ a a))))", 9,
            "(let v0 1 (let v1 \\v2.(let v3 v2 (* v3 v2)) (let v4 (+ v0 v0) (let v5 v4 (* v5 v4)))))");
        // A function in the argument is numbered before the body's.
        dueInlined("(let f \\x.\\y.x (f \\z.z))", 4, "(let v0 \\v1.\\v2.v1 (let v3 \\v4.v4 \\v5.v3))");
        dueInlined("\\u.(\\x.x u)", 1, "\\v0.(let v1 v0 v1)");
        dueInlined("(let f \\x.(fix g y (g x)) (f 1))", 6, "(let v0 \\v1.(fix v2 v3 (v2 v1)) (let v4 1 (fix v5 v6 (v5 v4))))");
    }

    private static void inlineNumbersAnew() {
        FlowDesk desk = Check.program("(+ (\\x.x \\a.a) (\\y.y \\b.b))");
        desk.run(9);
        Check.due("inline", desk.inline(1), 10);
        Check.due("a's function", desk.expr(2, 6), 0);
        Check.due("y's function", desk.expr(6, 6), 1);
        Check.due("b's function", desk.function(2, 0), 8);
        Check.due("b's variable", desk.function(2, 2), 3);
        Check.due("the let", desk.expr(1, 0), 5);
        Check.due("its flow", desk.flow(1), 1);
        Check.due("no run since", desk.told(7), 0);
    }

    private static void notInlined() {
        dueNot("((if 1 \\x.x \\y.y) 2)", 0, NONE);
        dueNot("(1 2)", 0, NONE);
        dueNot("((fix f x x) 1)", 0, NONE);
        dueNot("(let f (fix f x x) (f 1))", 3, NONE);
        dueNot("\\z.(\\x.z 1)", 1, NONE);
        dueNot("(let z 1 (let f \\x.z (f 1)))", 5, NONE);
        dueNot("((let a 1 \\x.x) 2)", 0, NONE);
        dueNot("((if 1 \\x.x 3) 2)", 0, NONE);
        dueNot("((\\a.a \\x.x) 2)", 0, NONE);
        // It reaches itself, right away or through another.
        dueNot("(let w \\x.(x x) (w w))", 5, NONE);
        dueNot("(let w \\x.(x x) (w w))", 2, NONE);
        dueNot("(let p \\x.((if 1 x 2) x) (p p))", 8, NONE);
        FlowDesk desk = Check.program("((\\a.a \\x.x) 2)");
        Check.due("the inner one can be", desk.inline(1), 6);
        Check.due("the outer one's operator is a let now", desk.inline(0), NONE);
    }

    private static void inlineEdges() {
        int[] wrong = {-1, 4, 200, Integer.MIN_VALUE, Integer.MAX_VALUE, 1, 2, 3};
        for (int label : wrong) {
            dueNot("(\\x.x 2)", label, BAD);
        }
        FlowDesk desk = Check.program("(\\x.x 2)");
        desk.run(9);
        desk.inline(1);
        Check.due("the run stays", desk.result(), 2);
        Check.due("the text stays", desk.clear(), 8);
        Check.type(desk, "zz");
        desk.inline(0);
        Check.due("the text stays", Check.text(desk, 2), "zz");
    }

    /** A sum of n ones, 2 n - 1 exprs, few of them open at a time. */
    private static String sum(int n) {
        if (n == 1) {
            return "1";
        }
        String left = sum(n / 2);
        String right = sum(n - n / 2);
        return "(+" + left + (left.endsWith(")") || right.startsWith("(") ? "" : " ") + right + ")";
    }

    private static void inlineExprLimit() {
        // let, \, body, the call, its operator and its argument: the body comes once more, the operator goes.
        for (int ones = 32; ones <= 36; ones++) {
            String text = "(let f \\x." + sum(34) + "(f " + sum(ones) + "))";
            FlowDesk desk = Check.program(text);
            int before = 1 + 1 + 67 + 1 + 1 + (2 * ones - 1);
            int after = before - 1 + 67;
            Check.due("exprs", desk.told(0), before);
            int call = 1 + 1 + 67;
            Check.due("it can be inlined", desk.told(5), 1);
            Check.due("inline to " + after, desk.inline(call), after <= 200 ? after : NONE);
            Check.due("exprs then", desk.told(0), after <= 200 ? after : before);
        }
        String rest = "(let f \\x." + sum(34) + "(f(* 1 " + sum(30) + "))))";
        Check.due("exactly 200", inlineTo("(+ 1" + rest, 71), 200);
        Check.due("exactly 201", inlineTo("(if 1 2" + rest, 72), NONE);
    }

    private static int inlineTo(String text, int label) {
        return Check.program(text).inline(label);
    }

    private static void inlineFunctionLimit() {
        for (int inner = 22; inner <= 26; inner++) {
            // 1 + inner functions, and inner more behind.
            String text = "(let f \\x." + Check.times("\\y.", inner) + "1(f " + "\\z.1))";
            FlowDesk desk = Check.program(text);
            int functions = 1 + inner + 1;
            int after = functions + inner;
            Check.due("functions", desk.told(1), functions);
            int call = 1 + 1 + inner + 1;
            int exprs = desk.told(0);
            Check.due("inline to functions " + after, desk.inline(call), after <= 50 ? exprs - 1 + inner + 1 : NONE);
            Check.due("functions then", desk.told(1), after <= 50 ? after : functions);
        }
        // The operator's own functions go: with 50 of them it can still be.
        FlowDesk desk = Check.program("(\\x." + Check.times("\\y.", 24) + "1" + Check.times("\\z.", 25) + "1)");
        Check.due("functions", desk.told(1), 50);
        Check.due("inline", desk.inline(0), 52);
        Check.due("functions then", desk.told(1), 49);
        Check.due("variables then", desk.told(2), 50);
    }

    /** Inlines what can be, from the first label on: how many were. */
    private static int inlineAll(FlowDesk desk) {
        int inlined = 0;
        for (int label = 0; label < desk.told(0); label++) {
            inlined += desk.expr(label, 0) == 11 && desk.inline(label) > 0 ? 1 : 0;
        }
        return inlined;
    }

    /** Six calls of a function with 12 variables in its body; each that is inlined brings 13. */
    private static FlowDesk sixCalls(int round, String last) {
        String body = "\\b.\\b.\\b.\\b." + Check.times("(let a 1 ", 8) + "1" + Check.times(")", 8);
        String calls = Check.times("(+(f 1)", 5) + last + Check.times(")", 5);
        FlowDesk desk = Check.program(Check.times("\\u.", round) + "(let f \\x." + body + calls + ")");
        Check.due("exprs", desk.told(0), round + 1 + 1 + 21 + 5 + 5 * 3 + (desk.told(3) == 6 ? 3 : 6));
        return desk;
    }

    private static void inlineVariableLimit() {
        FlowDesk desk = sixCalls(8, "(f 1)");
        Check.due("variables", desk.told(2), 8 + 14);
        Check.due("all are inlined", inlineAll(desk), 6);
        Check.due("exactly 100 variables", desk.told(2), 100);
        Check.due("the last one's", desk.expr(desk.told(0) - 3, 1), 99);
        Check.due("flows of none", desk.flows(100), 0);
        Check.due("exprs are no limit here", desk.told(0) < 190 ? 1 : 0, 1);
        desk = sixCalls(9, "(f 1)");
        Check.due("the sixth would make 101", inlineAll(desk), 5);
        Check.due("it can be inlined all the same", desk.told(5), 1);
        Check.due("variables", desk.told(2), 101 - 13);
        // The operator's own variables go: at the limit it can still be put in place.
        desk = sixCalls(7, "(f(\\u.u 1))");
        int exprs = desk.told(0);
        Check.due("all but the last", inlineAll(desk), 7);
        Check.due("variables", desk.told(2), 100);
        Check.due("exprs", desk.told(0), exprs + 6 * 20 - 1);
    }

    /** A function that stands behind its calls: what stands in between is no part of its body. */
    private static void inlineBackwards() {
        FlowDesk desk = Check.program("(\\f.(+(f 1)(f 2))\\x." + Check.times("\\y.", 24) + "1)");
        Check.due("functions", desk.told(1), 26);
        Check.due("the first", desk.inline(3), 9 + 26 - 1 + 25);
        Check.due("functions then", desk.told(1), 50);
        Check.due("no more functions", desk.inline(30), NONE);
        desk = Check.program("(\\f.(+(f 1)(f 2))\\x." + Check.times("(let a 1 ", 31) + "1" + Check.times(")", 31) + ")");
        Check.due("variables", desk.told(2), 33);
        Check.due("the first", desk.inline(3), 9 + 63 + 1 - 1 + 63);
        Check.due("variables then", desk.told(2), 33 + 32);
        Check.due("the second", desk.inline(68), 9 + 63 + 1 - 1 + 63 - 1 + 63);
        Check.due("variables then", desk.told(2), 33 + 64);
    }

    /** Nothing limits how deep a changed program is but the number of its exprs. */
    private static void inlineDeep() {
        String text = "(let f \\x." + Check.times("(+ 1 ", 20) + "x" + Check.times(")", 20) + Check.times("(+ 1 ", 35) + "(f 1)"
            + Check.times(")", 36);
        FlowDesk desk = Check.program(text);
        int call = 1 + 1 + 41 + 70;
        Check.due("inline", desk.inline(call), 43 + 70 + 2 + 41);
        Check.due("run", desk.run(2000), 0);
        Check.due("result", desk.result(), 35 + 20 + 1);
        Check.due("too long to write", desk.write(), NONE);
        Check.due("the innermost", desk.expr(desk.told(0) - 1, 2), desk.told(0) - 3);
        writeDeeperThanRead();
        String nest = "(let f \\x.(let g \\y.(+ 1 y)(g(g(g(g x)))))(f(f(f 1))))";
        desk = Check.program(nest);
        int before = 0;
        int exprs = desk.told(0);
        for (int turn = 0; turn < 5; turn++) {
            for (int label = 0; label < exprs; label++) {
                int then = desk.inline(label);
                before += then > 0 ? 1 : 0;
                exprs = Math.max(exprs, then);
            }
        }
        Check.due("some were inlined", before > 3 ? 1 : 0, 1);
        Check.due("run", desk.run(2000), 0);
        Check.due("result", desk.result(), 13);
    }

    private static void writeDeeperThanRead() {
        String body = Check.times("(1 ", 20);
        String round = Check.times("(1 ", 38);
        FlowDesk desk = Check.program("(let f \\x." + body + "x" + Check.times(")", 20) + round + "(f 2)" + Check.times(")", 39));
        Check.due("inline", desk.inline(1 + 1 + 41 + 76), 43 + 76 + 2 + 41);
        String want = "(let v0 \\v1." + body + "v1" + Check.times(")", 20) + " " + round + "(let v2 2 " + body + "v2"
            + Check.times(")", 20) + ")" + Check.times(")", 39);
        Check.due("written", Check.written(desk), want);
        Check.due("too deep to be read: the 41st", desk.read(), want.indexOf("(let v2") + "(let v2 2 ".length());
        Check.due("the program stays", desk.told(0), 162);
        Check.due("it is stuck at the innermost", desk.run(2000), 2);
    }

    private static void dropping() {
        dueDropped("(let a 1 2)", 0, "2");
        dueDropped("(let u \\x.x 1)", 0, "1");
        dueDropped("(let u (fix f x (f x)) \\y.y)", 0, "\\v0.v0");
        dueDropped("\\a.(let b a a)", 1, "\\v0.v0");
        dueDropped("(+ (let a 1 2) (let b 3 4))", 4, "(+ (let v0 1 2) 4)");
        dueDropped("(+ (let a 1 2) (let b 3 4))", 1, "(+ 2 (let v0 3 4))");
        dueDropped("(let a 1 (let b 2 (+ a a)))", 2, "(let v0 1 (+ v0 v0))");
        dueDropped("(let a 1 (let a 2 a))", 0, "(let v0 2 v0)");
        dueDropped("(let a (let b 1 2) a)", 1, "(let v0 2 v0)");
        dueDropped("\\x.\\y.(+ (let a x y) (* y x))", 3, "\\v0.\\v1.(+ v1 (* v1 v0))");
        dueDropped("(fix f x (let a \\y.f (f x)))", 1, "(fix v0 v1 (v0 v1))");
    }

    private static void dueNotDropped(String text, int label, int want) {
        FlowDesk desk = Check.program(text);
        int exprs = desk.told(0);
        Check.due("drop(" + label + ") of " + text, desk.drop(label), want);
        Check.due("nothing is changed in " + text, desk.told(0), exprs);
    }

    private static void notDropped() {
        dueNotDropped("(let a 1 a)", 0, NONE);
        dueNotDropped("(let a \\x.x \\y.(y a))", 0, NONE);
        dueNotDropped("(let a (+ 1 2) 3)", 0, NONE);
        dueNotDropped("(let a (1 2) 3)", 0, NONE);
        dueNotDropped("(let a (if 1 2 3) 3)", 0, NONE);
        dueNotDropped("(let a (let b 1 2) 3)", 0, NONE);
        dueNotDropped("(let a 1 (if 0 a 2))", 0, NONE);
    }

    private static void dropEdges() {
        int[] wrong = {-1, 3, 200, Integer.MIN_VALUE, Integer.MAX_VALUE, 1, 2};
        for (int label : wrong) {
            dueNotDropped("(let a 1 2)", label, BAD);
        }
        FlowDesk desk = Check.program("(let a 1 2)");
        Check.due("drop", desk.drop(0), 1);
        Check.due("it is gone", desk.drop(0), BAD);
        Check.due("the text stays", desk.clear(), 11);
    }

    private static void dropNumbersAnew() {
        FlowDesk desk = Check.program("(let a \\x.\\y.x (let b \\z.z (b b)))");
        Check.due("functions", desk.told(1), 3);
        Check.due("drop", desk.drop(0), 6);
        Check.due("functions then", desk.told(1), 1);
        Check.due("variables then", desk.told(2), 2);
        Check.due("b's flow", desk.flows(0), 1);
        Check.due("z's flow", desk.flows(1), 1);
        Check.due("the function's label", desk.function(0, 0), 1);
    }

    private static void manyChanges() {
        FlowDesk desk = Check.program("(let f \\x.(+ x 1) (f (f 3)))");
        Check.due("inline", desk.inline(5), 12);
        Check.due("inline", desk.inline(6), 14);
        Check.due("now f is not met", desk.told(6), 1);
        Check.due("drop", desk.drop(0), 9);
        Check.due("written", Check.written(desk), "(let v0 (let v1 3 (+ v1 1)) (+ v0 1))");
        Check.due("run", desk.run(99), 0);
        Check.due("result", desk.result(), 5);
        Check.due("steps", desk.told(7), 9);
    }
}
