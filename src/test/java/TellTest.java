/** Promises 5 (told), 6 (expr) and 9 (function). */
public final class TellTest {
    private static final int NONE = FlowDesk.NONE, BAD = FlowDesk.BAD;

    public static void main(String[] args) {
        counts();
        countsOfChanges();
        stepsOfTheRun();
        wrongQuestions();
        kinds();
        values();
        places();
        functionsOfExprs();
        exprEdges();
        functionRows();
        freeVariables();
        callsOfFunctions();
        functionEdges();
        Check.end();
    }

    /** told(0) .. told(6). */
    private static void dueCounts(String text, int... want) {
        FlowDesk desk = Check.program(text);
        for (int what = 0; what < want.length; what++) {
            Check.due("told(" + what + ") of " + text, desk.told(what), want[what]);
        }
    }

    private static void counts() {
        dueCounts("1", 1, 0, 0, 0, 0, 0, 0);
        dueCounts("(1 2)", 3, 0, 0, 1, 0, 0, 0);
        dueCounts("\\x.x", 2, 1, 1, 0, 0, 0, 0);
        dueCounts("(fix f x (f x))", 4, 1, 2, 1, 1, 0, 0);
        dueCounts("(if \\a.a (let b 1 b) (+ 1 (- 2 (* 3 (= 4 (< 5 6))))))", 17, 1, 2, 0, 0, 0, 0);
        dueCounts("((if 1 \\x.x \\y.y) 2)", 8, 2, 2, 1, 0, 0, 0);
        dueCounts("((\\x.x \\y.y) 2)", 7, 2, 2, 2, 2, 1, 0);
        dueCounts("(let f \\x.x (let g \\y.y ((if 1 f g) (f 1))))", 14, 2, 4, 2, 1, 1, 0);
    }

    private static void countsOfChanges() {
        dueCounts("(let a 1 2)", 3, 0, 1, 0, 0, 0, 1);
        dueCounts("(let a \\x.x 2)", 4, 1, 2, 0, 0, 0, 1);
        dueCounts("(let a (fix f x f) 2)", 4, 1, 3, 0, 0, 0, 1);
        dueCounts("(let a 1 (let b a 2))", 5, 0, 2, 0, 0, 0, 1);
        dueCounts("(let a (+ 1 2) 3)", 5, 0, 1, 0, 0, 0, 0);
        dueCounts("(let a (if 1 2 3) 3)", 6, 0, 1, 0, 0, 0, 0);
        dueCounts("(let a (let b 1 2) 3)", 5, 0, 2, 0, 0, 0, 1);
        dueCounts("(let a (1 2) 3)", 5, 0, 1, 1, 0, 0, 0);
        dueCounts("(let a 1 (let a 2 a))", 5, 0, 2, 0, 0, 0, 1);
        dueCounts("(let a 1 (let b 2 3))", 5, 0, 2, 0, 0, 0, 2);
        // A function with something free, one that is a fix, one that comes from a call: none can be inlined.
        dueCounts("\\z.(\\x.z 1)", 5, 2, 2, 1, 1, 0, 0);
        dueCounts("((fix f x x) 1)", 4, 1, 2, 1, 1, 0, 0);
        dueCounts("((let a 1 \\x.x) 2)", 6, 1, 2, 1, 1, 0, 1);
        dueCounts("((if 1 \\x.x 2) 3)", 7, 1, 1, 1, 1, 0, 0);
    }

    private static void stepsOfTheRun() {
        FlowDesk desk = Check.program("(let a 1 (+ a 2))");
        Check.due("no run", desk.told(7), 0);
        desk.run(2);
        Check.due("a short run", desk.told(7), 2);
        desk.run(100);
        Check.due("a whole run", desk.told(7), 5);
        desk.run(0);
        desk.run(2001);
        Check.due("no other run", desk.told(7), 5);
        desk.drop(0);
        desk.inline(0);
        desk.drop(9);
        Check.due("no change", desk.told(7), 5);
        desk = Check.program("(let a 1 2)");
        desk.run(9);
        desk.drop(0);
        Check.due("none since the change", desk.told(7), 0);
        desk = Check.program("(\\x.x 2)");
        desk.run(9);
        desk.inline(0);
        Check.due("none since the change", desk.told(7), 0);
    }

    private static void wrongQuestions() {
        FlowDesk desk = Check.program("(\\x.x 2)");
        int[] wrong = {-1, 8, 9, Integer.MIN_VALUE, Integer.MAX_VALUE};
        for (int what : wrong) {
            Check.due("told", desk.told(what), BAD);
            Check.due("expr", desk.expr(0, what), BAD);
            Check.due("function", desk.function(0, what), BAD);
            Check.due("expr of none", desk.expr(what == 8 ? 4 : what, 0), BAD);
            Check.due("function of none", desk.function(what == 8 ? 1 : what, 0), BAD);
        }
        Check.due("function has no 7", desk.function(0, 7), BAD);
    }

    private static void dueExprs(String text, int what, int... want) {
        FlowDesk desk = Check.program(text);
        for (int label = 0; label < want.length; label++) {
            Check.due("expr(" + label + ", " + what + ") of " + text, desk.expr(label, what), want[label]);
        }
        Check.due("one label more of " + text, desk.expr(want.length, what), BAD);
        Check.due("exprs of " + text, desk.told(0), want.length);
    }

    private static final String ALL = "(let a \\b.b (if (+ a 1) (- 2 (fix f c (* f c))) (= (< 3 -4) (a a))))";

    private static void kinds() {
        dueExprs(ALL, 0, 5, 2, 0, 4, 6, 0, 1, 7, 1, 3, 8, 0, 0, 9, 10, 1, 1, 11, 0, 0);
    }

    private static void values() {
        dueExprs(ALL, 1, 0, 1, 1, -1, -1, 0, 1, -1, 2, 3, -1, 2, 3, -1, -1, 3, -4, -1, 0, 0);
        dueExprs("(if 0 -1 -2)", 1, -1, 0, -1, -2);
    }

    private static void places() {
        dueExprs(ALL, 2, -1, 0, 1, 0, 3, 4, 4, 3, 7, 7, 9, 10, 10, 3, 13, 14, 14, 13, 17, 17);
        dueExprs(ALL, 3, 1, 2, -1, 4, 5, -1, -1, 8, -1, 10, 11, -1, -1, 14, 15, -1, -1, 18, -1, -1);
        dueExprs(ALL, 4, 3, -1, -1, 7, 6, -1, -1, 9, -1, -1, 12, -1, -1, 17, 16, -1, -1, 19, -1, -1);
        dueExprs(ALL, 5, -1, -1, -1, 13, -1, -1, -1, -1, -1, -1, -1, -1, -1, -1, -1, -1, -1, -1, -1, -1);
    }

    private static void functionsOfExprs() {
        dueExprs(ALL, 6, -1, 0, -1, -1, -1, -1, -1, -1, -1, 1, -1, -1, -1, -1, -1, -1, -1, -1, -1, -1);
        dueExprs(ALL, 7, -1, -1, 0, -1, -1, -1, -1, -1, -1, -1, 1, 1, 1, -1, -1, -1, -1, -1, -1, -1);
        dueExprs("\\a.(\\b.b (fix f x \\c.1))", 6, 0, -1, 1, -1, 2, 3, -1);
        dueExprs("\\a.(\\b.b (fix f x \\c.1))", 7, -1, 0, 0, 1, 0, 2, 3);
    }

    private static void exprEdges() {
        FlowDesk desk = Check.program(Check.times("\\x.", 40) + "x");
        Check.due("the innermost function", desk.expr(40, 7), 39);
        Check.due("its variable", desk.expr(40, 1), 39);
        Check.due("its place", desk.expr(40, 2), 39);
        Check.due("no such label", desk.expr(41, 2), BAD);
        Check.due("no such label", desk.expr(-1, 0), BAD);
    }

    private static void dueFunction(String text, int t, int... want) {
        FlowDesk desk = Check.program(text);
        for (int what = 0; what < want.length; what++) {
            Check.due("function(" + t + ", " + what + ") of " + text, desk.function(t, what), want[what]);
        }
    }

    private static void functionRows() {
        dueFunction(ALL, 0, 1, 2, 1, NONE, 0, 1, 0);
        dueFunction(ALL, 1, 9, 10, 3, 2, 0, 0, 0);
        dueFunction("((fix f n (if (< n 2) 1 (* n (f (- n 1))))) 5)", 0, 1, 2, 1, 0, 0, 2, 1);
        dueFunction("(let u 1 (fix f x \\y.(f (y u))))", 0, 2, 3, 2, 1, 1, 1, 0);
        dueFunction("(let u 1 (fix f x \\y.(f (y u))))", 1, 3, 4, 3, NONE, 2, 0, 0);
    }

    private static void freeVariables() {
        dueFree("\\x.x", 0);
        dueFree("\\x.\\y.x", 0, 1);
        dueFree("\\x.\\y.(x (x x))", 0, 1);
        dueFree("\\x.\\y.\\z.(x (y z))", 0, 1, 2);
        dueFree("\\x.\\y.(\\z.z x)", 0, 1, 0);
        dueFree("(let a 1 (let b 2 (let c 3 \\x.(+ a (+ c (+ a x))))))", 2);
        dueFree("(fix f x (fix g y (f (g (x y)))))", 0, 2);
        dueFree("(let a 1 \\x.(let a a (let b a b)))", 1);
        dueFree("\\x.(let y x \\z.(fix f x (y z)))", 0, 1, 2);
    }

    private static void dueFree(String text, int... want) {
        FlowDesk desk = Check.program(text);
        for (int t = 0; t < want.length; t++) {
            Check.due("free in " + t + " of " + text, desk.function(t, 4), want[t]);
        }
        Check.due("functions of " + text, desk.told(1), want.length);
    }

    private static void callsOfFunctions() {
        FlowDesk desk = Check.program("(let f \\x.x (let g \\y.y ((if 1 f g) (f (f 1)))))");
        Check.due("calls of f", desk.function(0, 5), 3);
        Check.due("calls of g", desk.function(1, 5), 1);
        Check.due("f itself", desk.function(0, 6), 0);
        desk = Check.program("(\\x.(x x) \\x.(x x))");
        Check.due("calls of the first", desk.function(0, 5), 1);
        Check.due("calls of the second", desk.function(1, 5), 2);
        Check.due("the first itself", desk.function(0, 6), 0);
        Check.due("the second itself", desk.function(1, 6), 1);
    }

    private static void functionEdges() {
        FlowDesk desk = Check.program("(" + Check.times("\\x.", 25) + "1" + Check.times("\\x.", 25) + "1)");
        Check.due("the 50th", desk.function(49, 0), 51);
        Check.due("its body", desk.function(49, 1), 52);
        Check.due("its x", desk.function(49, 2), 49);
        Check.due("no 51st", desk.function(50, 0), BAD);
        Check.due("none before the first", desk.function(-1, 0), BAD);
        Check.due("no functions", Check.program("1").function(0, 0), BAD);
    }
}
