/** Promise 4 (read): the grammar, its limits, and the place of the fault. */
public final class ReadTest {
    private static final int NONE = FlowDesk.NONE;

    public static void main(String[] args) {
        blanks();
        words();
        numbers();
        lambdas();
        forms();
        calls();
        minus();
        ends();
        bindings();
        otherBytes();
        openLimit();
        exprLimit();
        functionLimit();
        firstFault();
        faultKeepsProgram();
        readAgain();
        Check.end();
    }

    private static void blanks() {
        Check.dueFault("", 0);
        Check.dueFault(" \n ", 3);
        Check.dueFault(" \n1\n ", NONE);
        Check.dueFault("( + \n 1 2 )", NONE);
        Check.dueFault("(+ 1 2) 3", 8);
        Check.dueFault("(+\t1 2)", 2);
        Check.dueFault("(+ 1 2)\r", 7);
        Check.dueFault("\\ x\n.\nx", NONE);
        Check.dueFault("(let a 1a)", NONE);
        Check.dueFault("(let a(+ 1 2)a)", NONE);
    }

    private static void words() {
        Check.dueFault("x", 0);
        Check.dueFault("\\x.x", NONE);
        Check.dueFault("\\x1.x1", NONE);
        Check.dueFault("\\x123.x123", NONE);
        Check.dueFault("\\x1234.1", 1);
        Check.dueFault("\\xy.1", 1);
        Check.dueFault("\\x1y.1", 1);
        Check.dueFault("\\x.x1234", 3);
        Check.dueFault("\\x.xx", 3);
        Check.dueFault("\\x.x 1", 5);
        Check.dueFault("\\x.x1", 3);
        Check.dueFault("\\if.1", 1);
        Check.dueFault("\\let.1", 1);
        Check.dueFault("(let fix 1 2)", 5);
        Check.dueFault("if", 0);
        Check.dueFault("(+ if 1)", 3);
        Check.dueFault("(1 let)", 3);
        Check.dueFault("(iff 1 2 3)", 1);
        Check.dueFault("(if1 2)", 1);
        Check.dueFault("(le a 1 2)", 1);
        Check.dueFault("(xf 1 2 3)", 1);
        Check.dueFault("(ix 1 2 3)", 1);
        Check.dueFault("(fit a b 1)", 1);
        Check.dueFault("(lets 1)", 1);
        Check.dueFault("(fi", 1);
        Check.dueFault("(letx 1 x)", 1);
        Check.dueFault("(let xy 1 2)", 5);
        Check.dueFault("(let x0 1 (let x00 2 (+ x0 x00)))", NONE);
        Check.dueFault("(let x0 1 x00)", 10);
        Check.dueFault("(let x 1 x0)", 9);
        Check.dueFault("(let x01 1 x1)", 11);
        Check.dueFault("(let x1 1 y1)", 10);
        Check.dueFault("\\X.1", 1);
        Check.dueFault("\\xX.1", 2);
        Check.dueFault("\\a.\\z.(a z)", NONE);
        Check.dueFault("\\`.1", 1);
        Check.dueFault("\\{.1", 1);
    }

    private static void numbers() {
        Check.dueFault("0", NONE);
        Check.dueFault("123456", NONE);
        Check.dueFault("1234567", 6);
        Check.dueFault("-123456", NONE);
        Check.dueFault("-1234567", 7);
        Check.dueFault("(+ 1234567 1)", 9);
        Check.dueFault("(+ 12345678 1)", 9);
        Check.dueFault("000001", NONE);
        Check.dueFault("0000001", 6);
        Check.dueFault("-", 1);
        Check.dueFault("- 3", 1);
        Check.dueFault("--3", 1);
        Check.dueFault("-x", 1);
        Check.dueFault("1-2", 1);
        Check.dueFault("+1", 0);
        Check.due("a number", Check.program(" -04 ").expr(0, 1), -4);
        Check.due("the greatest", Check.program("999999").expr(0, 1), 999999);
        Check.due("the least", Check.program("-999999").expr(0, 1), -999999);
    }

    private static void lambdas() {
        Check.dueFault("\\", 1);
        Check.dueFault("\\x", 2);
        Check.dueFault("\\x.", 3);
        Check.dueFault("\\x.)", 3);
        Check.dueFault("\\x1", 3);
        Check.dueFault("\\.x", 1);
        Check.dueFault("\\1.x", 1);
        Check.dueFault("\\x x", 3);
        Check.dueFault("\\x..x", 3);
        Check.dueFault("\\x.x)", 4);
        Check.dueFault("\\x.5", NONE);
    }

    private static void forms() {
        Check.dueFault("(if 1 2 3)", NONE);
        Check.dueFault("(if 1 2)", 7);
        Check.dueFault("(if 1 2 3 4)", 10);
        Check.dueFault("(if)", 3);
        Check.dueFault("(let x 1 x)", NONE);
        Check.dueFault("(let x 1)", 8);
        Check.dueFault("(let x 1 2 3)", 11);
        Check.dueFault("(let 1 1 1)", 5);
        Check.dueFault("(fix f x x)", NONE);
        Check.dueFault("(fix f x)", 8);
        Check.dueFault("(fix f 1 x)", 7);
        Check.dueFault("(fix f x x x)", 11);
        Check.dueFault("(+ 1)", 4);
        Check.dueFault("(* 1 2 3)", 7);
        Check.dueFault("(=1 2)", NONE);
        Check.dueFault("(<(<1 2)3)", NONE);
        Check.dueFault("(> 1 2)", 1);
        Check.dueFault("(/ 1 2)", 1);
        Check.dueFault("(if(+ 1 2)3 4)", NONE);
        Check.dueFault("(if-1 2 3)", NONE);
        Check.dueFault("(fix f x.x)", 8);
    }

    private static void calls() {
        Check.dueFault("(1 2)", NONE);
        Check.dueFault("(1)", 2);
        Check.dueFault("()", 1);
        Check.dueFault("(1 2 3)", 5);
        Check.dueFault("((1 2) 3)", NONE);
        Check.dueFault("(\\x.x 1)", NONE);
        Check.dueFault("(\\x.x)", 5);
        Check.dueFault(")", 0);
        Check.dueFault("(1 +)", 3);
        Check.dueFault("(x 1)", 1);
        Check.dueFault("((if 1 2 3) 4)", NONE);
    }

    private static void minus() {
        Check.dueFault("(- 3 4)", NONE);
        Check.dueFault("(-3 4)", NONE);
        Check.dueFault("(-3)", 3);
        Check.dueFault("(- 3)", 4);
        Check.dueFault("(--3 4)", NONE);
        Check.dueFault("(-(+ 1 2)3)", NONE);
        Check.dueFault("( -3 4)", NONE);
        Check.dueFault("(+ 1 -)", 6);
        Check.dueFault("(+ 1 - 2)", 6);
        Check.dueFault("(+ 1-2)", NONE);
        Check.dueFault("\\x.(-x 1)", NONE);
        Check.due("- is an operation", Check.program("(- 3 4)").expr(0, 0), 7);
        Check.due("- is the number's", Check.program("(-3 4)").expr(0, 0), 11);
        Check.due("- before a bracket", Check.program("(-(+ 1 2)3)").expr(0, 0), 7);
    }

    private static void ends() {
        String whole = "(let f (fix g n (if (< n 2) \\x.n (+ -1 (g n)))) (f 1))";
        for (int n = 0; n < whole.length(); n++) {
            String start = whole.substring(0, n);
            // A word that is cut off is no word of the grammar: its first byte is the fault.
            int want = start.endsWith("(l") || start.endsWith("(f") || start.endsWith("(i") ? n - 1
                : start.endsWith("(le") || start.endsWith("(fi") ? n - 2 : n;
            want = start.endsWith(") (f") ? n : want;
            Check.dueFault(start, want);
        }
        Check.dueFault(whole, NONE);
    }

    private static void bindings() {
        Check.dueFault("(let x x 1)", 7);
        Check.dueFault("(let x 1 (+ x (let x x x)))", NONE);
        Check.dueFault("(+ (let x 1 x) x)", 15);
        Check.dueFault("(\\x.x x)", 6);
        Check.dueFault("((fix f x (f x)) f)", 17);
        Check.dueFault("((fix f x (f x)) x)", 17);
        Check.dueFault("(let a \\b.b b)", 12);
        FlowDesk desk = Check.program("(let x 3 (let x (+ x 1) x))");
        Check.due("inner x in its first expr", desk.expr(4, 1), 0);
        Check.due("inner x behind", desk.expr(6, 1), 1);
        desk = Check.program("(fix x x x)");
        Check.due("x hides f", desk.expr(1, 1), 1);
        desk = Check.program("(fix f x (let f f (x f)))");
        Check.due("f of the fix", desk.expr(2, 1), 0);
        Check.due("x of the fix", desk.expr(4, 1), 1);
        Check.due("f of the let", desk.expr(5, 1), 2);
        desk = Check.program("\\x.(\\x.x x)");
        Check.due("x within", desk.expr(3, 1), 1);
        Check.due("x behind", desk.expr(4, 1), 0);
    }

    private static void otherBytes() {
        for (int c = 0; c < 256; c++) {
            String one = String.valueOf((char) c);
            boolean isDigit = c >= '0' && c <= '9';
            boolean goesOn = c == '(' || c == '\\' || c == '-' || c == ' ' || c == '\n';
            Check.dueFault(one, isDigit ? NONE : goesOn ? 1 : 0);
            boolean blank = c == ' ' || c == '\n';
            Check.dueFault("1" + one, isDigit || blank ? NONE : 1);
        }
    }

    private static void openLimit() {
        Check.dueFault(Check.times("\\x.", 40) + "x", NONE);
        Check.dueFault(Check.times("\\x.", 41) + "x", 120);
        Check.dueFault(Check.times("(1", 40) + " 1" + Check.times(")", 40), NONE);
        Check.dueFault(Check.times("(1", 41) + " 1" + Check.times(")", 41), 80);
        Check.dueFault(Check.times("(1\\x.", 20) + "x" + Check.times(")", 20), NONE);
        Check.dueFault(Check.times("(1\\x.", 20) + "(", 100);
        Check.dueFault(Check.times("(1\\x.", 20) + " \n\\", 102);
        Check.dueFault("(" + Check.times("\\x.", 39) + "x " + Check.times("\\x.", 39 - 28) + "x)", NONE);
        Check.dueFault("(" + Check.times("\\x.", 38) + "x(1 2))", NONE);
        Check.dueFault("(" + Check.times("\\x.", 40) + "x", 1 + 39 * 3);
        Check.dueFault("(+(+ 1 2)" + Check.times("(1", 39) + " 1" + Check.times(")", 40), NONE);
        Check.dueFault("(+(+ 1 2)" + Check.times("(1", 40) + " 1" + Check.times(")", 41), 9 + 39 * 2);
    }

    private static void exprLimit() {
        Check.due("199 exprs", Check.program(Check.calls(100)).told(0), 199);
        Check.due("200 exprs", Check.program("\\x." + Check.calls(100)).told(0), 200);
        String text = Check.calls(101);
        Check.dueFault(text, text.lastIndexOf('1'));
        Check.dueFault("(" + Check.calls(100) + "(", 1 + Check.calls(100).length());
        Check.dueFault("(" + Check.calls(100) + "\\x.", 1 + Check.calls(100).length());
        String full = "(+(+" + Check.calls(99) + "1) ";
        String[] more = {"1)", "-)", "if)", "", ")", "\\", "(", "x"};
        for (String next : more) {
            Check.dueFault(full + next, full.length());
        }
        Check.dueFault("(+" + Check.calls(99) + "1)", NONE);
        Check.dueFault("(+" + Check.calls(99) + "-)", 3 + Check.calls(99).length());
    }

    private static void functionLimit() {
        String half = Check.times("\\x.", 25) + "1";
        Check.due("50 functions", Check.program("(" + half + half + ")").told(1), 50);
        Check.dueFault("(" + half + "\\x." + half + ")", 1 + 76 + 25 * 3);
        String one = "(+(" + half + half + ") ";
        int end = one.length();
        Check.dueFault(one + "\\x.x)", end);
        Check.dueFault(one + "(fix f x x))", end);
        Check.dueFault(one + "( \n fix f x x))", end);
        Check.dueFault(one + "(fix", end);
        Check.dueFault(one + "(fix 1", end);
        Check.dueFault(one + "(fixx", end + 1);
        Check.dueFault(one + "(let f 1 f))", NONE);
        String fixes = Check.times("(fix f x ", 20) + "x" + Check.times(")", 20);
        String lambdas = Check.times("\\x.", 29) + "x";
        Check.due("50 functions, fix too", Check.program("(" + fixes + lambdas + ")").told(1), 49);
        Check.due("their variables", Check.program("(" + fixes + lambdas + ")").told(2), 69);
        Check.due("with one more", Check.program("(" + fixes + "\\x." + lambdas + ")").told(1), 50);
        Check.dueFault("(" + fixes + "\\x.\\x." + lambdas + ")", 1 + fixes.length() + 30 * 3);
        Check.dueFault("(" + lambdas + "(fix f x " + fixes + "))", NONE);
        Check.dueFault("(\\x." + lambdas + "(fix f x " + fixes + "))", 4 + lambdas.length() + 20 * 9);
    }

    private static void firstFault() {
        Check.dueFault("(+ y 1234567)", 3);
        Check.dueFault("(+ 1234567 y)", 9);
        Check.dueFault("(y y", 1);
        Check.dueFault("\\xy.y", 1);
        Check.dueFault("(let y 1 (z", 10);
        Check.dueFault(Check.times("\\x.", 40) + "y(", 120);
        Check.dueFault(Check.times("\\x.", 40) + "(y", 120);
    }

    private static void faultKeepsProgram() {
        FlowDesk desk = Check.program("(\\x.(+ x 1) 4)");
        desk.run(99);
        Check.retype(desk, "(let a \\x.x (a a");
        Check.due("a fault", desk.read(), 16);
        Check.due("exprs stay", desk.told(0), 6);
        Check.due("functions stay", desk.told(1), 1);
        Check.due("variables stay", desk.told(2), 1);
        Check.due("the run stays", desk.result(), 5);
        Check.due("its steps stay", desk.told(7), 6);
        Check.due("what was used stays", desk.used(0), 1);
        Check.due("flows stay", desk.flow(1), 1);
        Check.due("kinds stay", desk.expr(2, 0), 6);
        Check.due("the text stays", desk.clear(), 16);
        Check.due("it is written as it was", Check.written(desk), "(\\v0.(+ v0 1) 4)");
    }

    private static void readAgain() {
        FlowDesk desk = Check.program("(\\x.(+ x 1) 4)");
        desk.run(99);
        Check.due("read again", desk.read(), NONE);
        Check.due("no run since", desk.result(), 0);
        Check.due("no steps since", desk.told(7), 0);
        Check.due("nothing used since", desk.used(0), 0);
        Check.due("the text stays", desk.clear(), 14);
        Check.type(desk, "\\a.\\b.(b a)");
        Check.due("another", desk.read(), NONE);
        Check.due("its exprs", desk.told(0), 5);
        Check.due("its functions", desk.told(1), 2);
        Check.due("its flows", desk.flow(0), 1);
        Check.due("no old flows", desk.flow(3), 0);
        Check.due("no old labels", desk.expr(5, 0), FlowDesk.BAD);
        readOften();
    }

    /** Nothing is left of a text that was read before, with a fault or without. */
    private static void readOften() {
        FlowDesk desk = new FlowDesk();
        for (int turn = 0; turn < 4; turn++) {
            Check.retype(desk, Check.times("(fix f x\\y.", 15) + "y" + Check.times(")", 15));
            Check.due("30 functions", desk.read(), NONE);
            Check.due("their variables", desk.told(2), 45);
            Check.due("the first one's x", desk.function(0, 2), 1);
            Check.retype(desk, Check.times("(let a\\b.", 15) + "z");
            Check.due("much is open", desk.read(), 15 * 9);
            Check.retype(desk, "(+ b 1)");
            Check.due("b is not bound", desk.read(), 3);
        }
        Check.retype(desk, Check.times("\\z.", 40) + "z");
        Check.due("40 open", desk.read(), NONE);
        Check.due("what z means", desk.expr(40, 1), 39);
    }
}
