/** Promises 7 (flow), 8 (flows), 10 (reaches) and 11 (single). */
public final class FlowTest {
    private static final int NONE = FlowDesk.NONE, BAD = FlowDesk.BAD;

    public static void main(String[] args) {
        flowsOfExprs();
        flowsOfVariables();
        flowsThroughCalls();
        flowsOfDeadCode();
        longChains();
        highBits();
        flowEdges();
        reaching();
        reachingWithin();
        singleCalls();
        afterChanges();
        Check.end();
    }

    private static void dueFlow(String text, long... want) {
        FlowDesk desk = Check.program(text);
        for (int label = 0; label < want.length; label++) {
            Check.due("flow(" + label + ") of " + text, desk.flow(label), want[label]);
        }
        Check.due("exprs of " + text, desk.told(0), want.length);
    }

    private static void dueFlows(String text, long... want) {
        FlowDesk desk = Check.program(text);
        for (int variable = 0; variable < want.length; variable++) {
            Check.due("flows(" + variable + ") of " + text, desk.flows(variable), want[variable]);
        }
        Check.due("variables of " + text, desk.told(2), want.length);
    }

    private static void flowsOfExprs() {
        dueFlow("1", 0);
        dueFlow("\\x.x", 1, 0);
        dueFlow("(fix f x f)", 1, 1);
        dueFlow("(fix f x x)", 1, 0);
        dueFlow("(if \\a.a \\b.b \\c.c)", 6, 1, 0, 2, 0, 4, 0);
        dueFlow("(let v \\a.a (let w v w))", 1, 1, 0, 1, 1, 1);
        dueFlow("(let v \\a.a 1)", 0, 1, 0, 0);
        dueFlow("(+ \\a.a \\b.b)", 0, 1, 0, 2, 0);
        dueFlow("(- \\a.a 1)", 0, 1, 0, 0);
        dueFlow("(* 1 \\a.a)", 0, 0, 1, 0);
        dueFlow("(= \\a.a 1)", 0, 1, 0, 0);
        dueFlow("(< \\a.a 1)", 0, 1, 0, 0);
        dueFlow("(1 \\a.a)", 0, 0, 1, 0);
    }

    private static void flowsOfVariables() {
        dueFlows("\\x.x", 0);
        dueFlows("(fix f x f)", 1, 0);
        dueFlows("(let v \\a.a v)", 1, 0);
        dueFlows("(let v (if 1 \\a.a \\b.b) 2)", 3, 0, 0);
        dueFlows("(\\x.1 \\y.2)", 2, 0);
        dueFlows("((fix f x x) \\y.2)", 1, 2, 0);
        dueFlows("(fix f x (f f))", 1, 1);
    }

    private static void flowsThroughCalls() {
        dueFlow("(\\x.x \\y.y)", 2, 1, 2, 2, 0);
        dueFlow("(\\x.\\y.x \\z.z)", 2, 1, 2, 4, 4, 0);
        dueFlow("(\\x.(x x) \\x.(x x))", 0, 1, 0, 2, 2, 2, 0, 2, 2);
        // One function called from two places: both arguments flow to both answers.
        dueFlow("(let i \\x.x (if 1 (i \\a.1) (i \\b.2)))", 6, 1, 6, 6, 0, 6, 1, 2, 0, 6, 1, 4, 0);
        dueFlow("((if 1 \\x.x \\y.\\z.z) \\w.w)", 8 + 4, 3, 0, 1, 8, 2, 4, 0, 8, 0);
        dueFlow("((fix f x (if x f (f x))) \\y.1)", 1, 1, 1, 2, 1, 1, 1, 2, 2, 0);
    }

    private static void flowsOfDeadCode() {
        dueFlow("(if 1 2 (let f \\x.x (f \\y.y)))", 2, 0, 0, 2, 1, 2, 2, 1, 2, 0);
        dueFlow("\\u.(\\x.x \\y.y)", 1, 4, 2, 4, 4, 0);
    }

    private static void longChains() {
        String text = "(let a\\x.x(let b a(let c b(let d c(let e d(let f e(let g f(let h g(let i h i)))))))))";
        FlowDesk desk = Check.program(text);
        for (int variable = 0; variable < desk.told(2); variable++) {
            Check.due("flows(" + variable + ")", desk.flows(variable), variable == 1 ? 0 : 1);
        }
        Check.due("what comes out", desk.flow(0), 1);
        // What a lowest label binds is called under the highest: z comes out through p and all the bodies.
        text = "(\\a.(\\b.(\\c.(\\d.(\\e.(a \\z.z) \\y.(b y)) \\y.(c y)) \\y.1) \\y.1) \\p.p)";
        desk = Check.program(text);
        Check.due("through all", desk.flow(0), 1L << 5);
        Check.due("p's x", desk.flows(desk.told(2) - 1), 1L << 5);
    }

    private static void highBits() {
        FlowDesk desk = Check.program("(" + Check.times("\\x.", 25) + "1" + Check.times("\\y.", 25) + "1)");
        Check.due("the 50th function", desk.flow(51), 1L << 49);
        Check.due("the argument", desk.flows(0), 1L << 25);
        Check.due("what comes out", desk.flow(0), 2);
        desk = Check.program("(" + Check.times("\\x.", 35) + "1" + Check.times("(if 1\\y.1 ", 14) + "\\z.2" + Check.times(")", 14) + ")");
        Check.due("many functions", desk.flows(0), (1L << 50) - (1L << 35));
    }

    private static void flowEdges() {
        FlowDesk desk = Check.program("(let v \\a.a v)");
        int[] wrong = {-1, 4, 200, Integer.MIN_VALUE, Integer.MAX_VALUE};
        for (int i : wrong) {
            Check.due("flow of none", desk.flow(i), 0);
            Check.due("flows of none", desk.flows(i), 0);
            Check.due("single of none", desk.single(i), BAD);
            Check.due("reaches of none", desk.reaches(i, 0), BAD);
            Check.due("reaches of none", desk.reaches(0, i), BAD);
        }
        Check.due("flows of none", desk.flows(2), 0);
        desk = Check.program(Check.times("\\x.", 40) + "x");
        Check.retype(desk, "1");
        desk.read();
        Check.due("no old flow", desk.flow(1), 0);
        Check.due("no old flows", desk.flows(0), 0);
        Check.due("no old functions", desk.reaches(0, 0), BAD);
    }

    private static void reaching() {
        FlowDesk desk = Check.program("(\\x.(x x) \\x.(x x))");
        Check.due("first to first", desk.reaches(0, 0), 0);
        Check.due("first to second", desk.reaches(0, 1), 1);
        Check.due("second to first", desk.reaches(1, 0), 0);
        Check.due("second to second", desk.reaches(1, 1), 1);
        desk = Check.program("(let a \\x.1 (let b \\x.(a x) (let c \\x.(b x) (let d \\x.(c x) 1))))");
        for (int t = 0; t < 4; t++) {
            for (int u = 0; u < 4; u++) {
                Check.due(t + " reaches " + u, desk.reaches(t, u), u < t ? 1 : 0);
            }
        }
        desk = Check.program("(let a (fix a x \\y.((x a) y)) (a \\z.(z 1)))");
        Check.due("a fix that calls none of itself", desk.reaches(0, 0), 0);
    }

    private static void reachingWithin() {
        // The call stands in the inner function: the outer one does not make it.
        FlowDesk desk = Check.program("(let g \\z.z \\x.\\y.(g y))");
        Check.due("outer to g", desk.reaches(1, 0), 0);
        Check.due("inner to g", desk.reaches(2, 0), 1);
        Check.due("outer to inner", desk.reaches(1, 2), 0);
        // The operator's own call, and calls in if, let and operations, are made by the function round them.
        desk = Check.program("(let g \\z.z \\x.(if (g 1) (let a 1 2) (+ 3 4)))");
        Check.due("in an if", desk.reaches(1, 0), 1);
        desk = Check.program("(let g \\z.z \\x.(let a (+ 1 (g 2)) 3))");
        Check.due("in a let", desk.reaches(1, 0), 1);
        desk = Check.program("(let g \\z.z \\x.(\\y.1 (g 2)))");
        Check.due("in an argument", desk.reaches(1, 0), 1);
        Check.due("the operator", desk.reaches(1, 2), 1);
        Check.due("the operator's body calls none", desk.reaches(2, 0), 0);
        // A call outside all functions is nobody's.
        desk = Check.program("(\\x.x \\y.y)");
        Check.due("nobody", desk.reaches(0, 1) + desk.reaches(1, 0) + desk.reaches(0, 0) + desk.reaches(1, 1), 0);
    }

    private static void singleCalls() {
        FlowDesk desk = Check.program("(let f \\x.x (let g \\y.y (if (f 1) ((if 1 f g) 2) (3 (g 4)))))");
        Check.due("exprs", desk.told(0), 21);
        Check.due("(f 1)", desk.single(7), 0);
        Check.due("((if 1 f g) 2)", desk.single(10), NONE);
        Check.due("(3 (g 4))", desk.single(16), NONE);
        Check.due("(g 4)", desk.single(18), 1);
        Check.due("no call", desk.single(0), BAD);
        Check.due("no call", desk.single(11), BAD);
        Check.due("the only one is the 50th", Check.program(
            "(+(" + Check.times("\\x.", 25) + "1" + Check.times("\\y.", 24) + "1)(\\z.1 1))").single(53), 49);
    }

    private static void afterChanges() {
        FlowDesk desk = Check.program("(let f \\x.x (f (f \\y.1)))");
        Check.due("before", desk.flow(0), 2);
        desk.inline(3);
        // (let f \x.x (let z (f \y.1) z)): the functions are x and y, as before.
        Check.due("after", desk.flow(0), 2);
        Check.due("z", desk.flows(2), 2);
        desk.inline(4);
        // (let f \x.x (let z (let w \y.1 w) z)): x is no longer called.
        Check.due("x's flow", desk.flows(1), 0);
        Check.due("calls", desk.told(3), 0);
        Check.due("y's label", desk.function(1, 0), 5);
    }
}
