/** Promises 12 (run), 13 (result) and 14 (used). */
public final class RunTest {
    private static final int BAD = FlowDesk.BAD;
    private static final int A_NUMBER = 0, A_CLOSURE = 1, STUCK = 2, MORE = 3;

    public static void main(String[] args) {
        numbers();
        wrapping();
        choices();
        scopes();
        closures();
        recursion();
        stuck();
        stuckOrder();
        steps();
        stepLimits();
        deepRuns();
        oftenRun();
        wrongSteps();
        use();
        useOfShortRuns();
        lastRun();
        Check.end();
    }

    private static void numbers() {
        Check.dueRun("7", A_NUMBER, 7, 1);
        Check.dueRun("-7", A_NUMBER, -7, 1);
        Check.dueRun("(+ 2 3)", A_NUMBER, 5, 3);
        Check.dueRun("(- 2 3)", A_NUMBER, -1, 3);
        Check.dueRun("(* -2 3)", A_NUMBER, -6, 3);
        Check.dueRun("(= 2 2)", A_NUMBER, 1, 3);
        Check.dueRun("(= 2 3)", A_NUMBER, 0, 3);
        Check.dueRun("(< 2 3)", A_NUMBER, 1, 3);
        Check.dueRun("(< 3 3)", A_NUMBER, 0, 3);
        Check.dueRun("(< 3 2)", A_NUMBER, 0, 3);
        Check.dueRun("(< -3 2)", A_NUMBER, 1, 3);
        Check.dueRun("(- (* 5 5) (+ (= 1 1) (< 2 1)))", A_NUMBER, 24, 11);
    }

    private static void wrapping() {
        String square = "(let s \\x.(* x x) (s (s (s 256))))";
        Check.dueRun(square, A_NUMBER, 0, 18);
        long million = 999999;
        Check.dueRun("(let a (* 999999 999999) (* a a))", A_NUMBER, million * million * (million * million), 7);
        Check.dueRun("(let a (* 999999 999999) (let b (* a 999999) (+ b (+ b (+ b (+ b (+ b (+ b (+ b (+ b (+ b (+ b b))))))))))))",
            A_NUMBER, 11 * (million * million * million), 1 + 3 + 1 + 3 + 21);
        String least = "(let a (* 65536 32768) (let b (* (* a a) 2) ";
        Check.dueRun(least + "(< b 0)))", A_NUMBER, 1, 13);
        Check.dueRun(least + "b))", A_NUMBER, Long.MIN_VALUE, 11);
        Check.dueRun(least + "(- b 1)))", A_NUMBER, Long.MAX_VALUE, 13);
        Check.dueRun(least + "(< (- b 1) b)))", A_NUMBER, 0, 15);
        Check.dueRun(least + "(if b 5 6)))", A_NUMBER, 5, 13);
    }

    private static void choices() {
        Check.dueRun("(if 1 2 3)", A_NUMBER, 2, 3);
        Check.dueRun("(if 0 2 3)", A_NUMBER, 3, 3);
        Check.dueRun("(if -1 2 3)", A_NUMBER, 2, 3);
        Check.dueRun("(if 0 (1 2) 3)", A_NUMBER, 3, 3);
        Check.dueRun("(if 1 3 (1 2))", A_NUMBER, 3, 3);
        Check.dueRun("(+ (if (< 1 2) 10 20) (if (< 2 1) 10 20))", A_NUMBER, 30, 11);
    }

    private static void scopes() {
        Check.dueRun("(let x 3 (let x (+ x 1) x))", A_NUMBER, 4, 7);
        Check.dueRun("(let x 3 (+ (let x 5 x) x))", A_NUMBER, 8, 7);
        Check.dueRun("(let x 1 (let f \\y.x (let x 2 (f 0))))", A_NUMBER, 1, 10);
        Check.dueRun("((\\a.\\b.(- a b) 5) 3)", A_NUMBER, 2, 9);
        Check.dueRun("((fix x x x) 9)", A_NUMBER, 9, 4);
        Check.dueRun("(let k \\a.\\b.a (let p (k 1) (let q (k 2) (+ (p 0) (q 0)))))", A_NUMBER, 3, 21);
    }

    private static void closures() {
        Check.dueRun("\\x.x", A_CLOSURE, 0, 1);
        Check.dueRun("(fix f x x)", A_CLOSURE, 0, 1);
        Check.dueRun("(\\x.\\y.x 1)", A_CLOSURE, 1, 4);
        Check.dueRun("(if 0 \\a.a \\b.b)", A_CLOSURE, 1, 3);
        Check.dueRun("((fix f x f) 1)", A_CLOSURE, 0, 4);
        Check.dueRun("(let g (fix f x f) (((g 1) 2) 3))", A_CLOSURE, 0, 12);
        Check.dueRun("(\\x.x \\y.(y y))", A_CLOSURE, 1, 4);
    }

    private static void recursion() {
        Check.dueRun("((fix f n (if (< n 2) 1 (* n (f (- n 1))))) 5)", A_NUMBER, 120, 52);
        // 41 calls: 21 that answer n, 20 that call twice.
        Check.dueRun("((fix f n (if (< n 2) n (+ (f (- n 1)) (f (- n 2))))) 7)", A_NUMBER, 13, 3 + 21 * 5 + 20 * 15);
        // f keeps what stood round its own fix, whoever calls it.
        Check.dueRun("(let m \\k.(fix f n (if n (+ k (f (- n 1))) 0)) (let a (m 1) (let b (m 10) (+ (a 2) (b 3)))))", A_NUMBER, 32, 13 + (3 + 2 * 9 + 3) + (3 + 3 * 9 + 3));
        Check.dueRun("(((fix f x \\y.(if y ((f (+ x 1)) (- y 1)) x)) 5) 3)", A_NUMBER, 8, 6 + 3 * 12 + 3);
    }

    private static void stuck() {
        Check.dueRun("(1 2)", STUCK, 0, 3);
        Check.dueRun("(if \\x.x 1 2)", STUCK, 0, 2);
        Check.dueRun("(+ 1 \\x.x)", STUCK, 0, 3);
        Check.dueRun("(+ \\x.x 1)", STUCK, 0, 3);
        Check.dueRun("(- \\x.x 1)", STUCK, 0, 3);
        Check.dueRun("(* 1 \\x.x)", STUCK, 0, 3);
        Check.dueRun("(= \\x.x \\x.x)", STUCK, 0, 3);
        Check.dueRun("(< \\x.x 1)", STUCK, 0, 3);
        Check.dueRun("(if 0 1 (+ 2 \\x.x))", STUCK, 3, 5);
        Check.dueRun("(let f \\x.(x 1) (f 2))", STUCK, 2, 8);
        Check.dueRun("(\\x.(if x 1 2) \\y.y)", STUCK, 2, 5);
        Check.dueRun("(let a (1 2) 3)", STUCK, 1, 4);
        Check.dueRun("(let f \\x.(+ x 1) (f f))", STUCK, 2, 8);
    }

    private static void stuckOrder() {
        Check.dueRun("(1 (2 3))", STUCK, 2, 5);
        Check.dueRun("((1 2) (3 4))", STUCK, 1, 4);
        Check.dueRun("(+ (1 2) (3 4))", STUCK, 1, 4);
        Check.dueRun("(+ \\x.x (3 4))", STUCK, 3, 5);
        Check.dueRun("(1 (+ 2 \\x.x))", STUCK, 2, 5);
        Check.dueRun("(if (if \\x.x 1 2) 3 4)", STUCK, 1, 3);
    }

    private static void steps() {
        FlowDesk desk = Check.program("(let f \\x.(+ x 1) (f (f 3)))");
        for (int steps = 1; steps < 13; steps++) {
            Check.due("run(" + steps + ")", desk.run(steps), MORE);
            Check.due("result", desk.result(), 0);
            Check.due("steps", desk.told(7), steps);
        }
        for (int steps = 13; steps < 16; steps++) {
            Check.due("run(" + steps + ")", desk.run(steps), A_NUMBER);
            Check.due("result", desk.result(), 5);
            Check.due("steps", desk.told(7), 13);
        }
        desk = Check.program("(1 2)");
        Check.due("stuck at the last step", desk.run(3), STUCK);
        Check.due("before it", desk.run(2), MORE);
        Check.due("one step", Check.program("1").run(1), A_NUMBER);
    }

    private static void stepLimits() {
        Check.dueRun("(\\x.(x x) \\x.(x x))", MORE, 0, 2000);
        Check.dueRun("((fix f x (f x)) 1)", MORE, 0, 2000);
        // Seven steps a turn, and six round all of them.
        String count = "((fix f n (if n (f (- n 1)) E)) N)";
        Check.dueRun(count.replace("E", "7").replace("N", "284"), A_NUMBER, 7, 1994);
        Check.dueRun(count.replace("E", "(+ 1 (+ 1 (+ 1 7)))").replace("N", "284"), A_NUMBER, 10, 2000);
        Check.dueRun(count.replace("E", "7").replace("N", "285"), MORE, 0, 2000);
        Check.dueRun(count.replace("E", "(1 (+ 1 (+ 1 7)))").replace("N", "284"), STUCK, 9, 2000);
    }

    private static void deepRuns() {
        String sum = "((fix f n (if n (+ n (f (- n 1))) 0)) N)";
        FlowDesk desk = Check.program(sum.replace("N", "199"));
        Check.due("a deep run", desk.run(2000), A_NUMBER);
        Check.due("its sum", desk.result(), 199 * 200 / 2);
        Check.due("its steps", desk.told(7), 3 + 199 * 9 + 3);
        desk = Check.program(sum.replace("N", "221"));
        Check.due("the deepest", desk.run(2000), A_NUMBER);
        Check.due("its sum", desk.result(), 221 * 222 / 2);
        Check.due("its steps", desk.told(7), 3 + 221 * 9 + 3);
        desk = Check.program(sum.replace("N", "222"));
        Check.due("one deeper", desk.run(2000), MORE);
        Check.due("its steps", desk.told(7), 2000);
        // Each turn begins three exprs that wait: the operator runs on without end.
        desk = Check.program("((fix f x ((f x) 1)) 1)");
        Check.due("operators in operators", desk.run(2000), MORE);
        desk = Check.program("((fix f x (let a (let b x b) (f a))) 1)");
        Check.due("many bindings", desk.run(2000), MORE);
        // If a binding were lost, a would not be 1, and the run would not end.
        String lets = Check.times("(let a 1 ", 35);
        Check.dueRun("((fix f n (if n" + lets + "(f(- n a))" + Check.times(")", 35) + "99)) 25)", A_NUMBER, 99, 3 + 25 * 77 + 3);
    }

    private static void oftenRun() {
        FlowDesk desk = Check.program("((fix f n (if n (let a 1 (let b a (f (- n b)))) n)) 150)");
        for (int turn = 0; turn < 5; turn++) {
            Check.due("run " + turn, desk.run(2000), A_NUMBER);
            Check.due("result " + turn, desk.result(), 0);
            Check.due("steps " + turn, desk.told(7), 3 + 150 * 11 + 3);
            Check.due("stopped " + turn, desk.run(1000), MORE);
        }
    }

    private static void wrongSteps() {
        FlowDesk desk = Check.program("(+ 1 2)");
        Check.due("run(2000)", desk.run(2000), A_NUMBER);
        int[] wrong = {0, -1, 2001, Integer.MIN_VALUE, Integer.MAX_VALUE};
        for (int steps : wrong) {
            Check.due("run(" + steps + ")", desk.run(steps), BAD);
            Check.due("the last run stays", desk.result(), 3);
            Check.due("its steps stay", desk.told(7), 3);
        }
    }

    private static void use() {
        FlowDesk desk = Check.program("(let f \\x.x (let g \\y.y (+ (f 1) ((if 0 f g) 2))))");
        Check.due("no run", desk.used(7), 0);
        desk.run(99);
        Check.due("(f 1)", desk.used(7), 1);
        Check.due("the flow of the second", desk.flow(11), 3);
        Check.due("the second", desk.used(10), 2);
        Check.due("no call", desk.used(0), 0);
        Check.due("no call", desk.used(11), 0);
        Check.due("no label", desk.used(16), 0);
        Check.due("no label", desk.used(-1), 0);
        Check.due("no label", desk.used(Integer.MAX_VALUE), 0);
        desk = Check.program("(let i \\h.(h 1) (+ (i \\x.x) (i \\y.y)))");
        desk.run(99);
        Check.due("both in one call", desk.used(2), 6);
        Check.due("one in each", desk.used(6) + 10 * desk.used(10), 1 + 10);
        desk = Check.program("(if 0 (\\x.x 1) (2 3))");
        Check.due("stuck", desk.run(99), STUCK);
        Check.due("not come to", desk.used(2), 0);
        Check.due("called none", desk.used(6), 0);
    }

    private static void useOfShortRuns() {
        FlowDesk desk = Check.program("(\\x.(\\y.y x) 5)");
        desk.run(99);
        Check.due("outer", desk.used(0), 1);
        Check.due("inner", desk.used(2), 2);
        desk.run(2);
        Check.due("not called yet", desk.used(0), 0);
        Check.due("nor within", desk.used(2), 0);
        desk.run(4);
        Check.due("called", desk.used(0), 1);
        Check.due("not within", desk.used(2), 0);
        desk.run(7);
        Check.due("whole again", desk.used(2), 2);
    }

    private static void lastRun() {
        FlowDesk desk = Check.program("(let a 1 (\\x.x 2))");
        desk.run(99);
        Check.due("result", desk.result(), 2);
        desk.inline(1);
        desk.drop(7);
        Check.due("no change: it stays", desk.result(), 2);
        Check.due("no change: it stays", desk.used(2), 1);
        Check.due("drop", desk.drop(0), 4);
        Check.due("no run since", desk.result(), 0);
        Check.due("none used since", desk.used(0), 0);
        desk.run(99);
        Check.due("result", desk.result(), 2);
        Check.due("used", desk.used(0), 1);
        Check.due("inline", desk.inline(0), 3);
        Check.due("no run since", desk.result(), 0);
        Check.due("none used since", desk.used(0), 0);
        desk.run(99);
        Check.due("result", desk.result(), 2);
    }
}
