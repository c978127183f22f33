/** The limits of a TEXT's program and the place of its FAULT, for promise 4 (read). */
public final class LimitEdgeTest {
    private static final int NONE = FlowDesk.NONE;

    public static void main(String[] args) {
        fortyOpen();
        fortyFirstOpen();
        fortyFirstOfEachKind();
        openTillTheirExprEnds();
        twoHundredExprs();
        twoHundredFirstExpr();
        lastExprOfEachKind();
        fiftyFunctions();
        fiftyFirstLambda();
        fiftyFirstFix();
        noMoreVariablesThanFit();
        allLimitsAtOnce();
        endIfMoreMustCome();
        firstByteThatDoesNotGoOn();
        nameThatIsNotBound();
        firstOfTwoFaults();
        limitBeforeOtherFaults();
        otherFaultsBeforeLimit();
        faultKeepsAll();
        nothingStaysOfAFault();
        textStays();
        Check.end();
    }

    private static String lambdas(int n) {
        return Check.times("\\x.", n);
    }

    private static String closed(String opening, int n, String within) {
        return Check.times(opening, n) + within + Check.times(")", n);
    }

    // "At most 40 of \ and ( are open at a time"
    private static void fortyOpen() {
        String[] openings = {"(1", "(+1", "(if 1 2", "(let x 1", "(fix f x"};
        for (String opening : openings) {
            Check.dueFault(closed(opening, opening.length() > 8 ? 20 : 39, "(1 1)"), NONE);
        }
        Check.dueFault(closed("(if 1 2", 40, "-1"), NONE);
        Check.dueFault(closed("(let x 1", 40, " x"), NONE);
        Check.dueFault(closed("(fix f x", 40, " x"), NONE);
        Check.dueFault(lambdas(40) + "x", NONE);
        Check.dueFault(lambdas(1) + closed("(1", 39, " x"), NONE);
        Check.dueFault(closed("(1", 1, lambdas(39) + "1"), NONE);
        Check.dueFault(closed("(1\\x.", 20, "x"), NONE);
    }

    // "the 41st \ or ("
    private static void fortyFirstOpen() {
        Check.dueFault(lambdas(41) + "x", 120);
        Check.dueFault(lambdas(40) + "(x x)", 120);
        Check.dueFault(closed("(1", 41, " 1"), 80);
        Check.dueFault(closed("(1", 40, "\\x.x"), 80);
        Check.dueFault(closed("(if 1 2", 41, "-1"), 40 * 7);
        Check.dueFault(closed("(let x 1", 41, " x"), 40 * 8);
        Check.dueFault(closed("(fix f x", 41, " x"), 40 * 8);
        Check.dueFault(closed("(1", 40, " \n (1 1)"), 83);
        Check.dueFault(closed("(1\\x.", 20, "\n\\y.y"), 101);
        // What is wrong with it further on does not count any more.
        Check.dueFault(lambdas(40) + "\\", 120);
        Check.dueFault(lambdas(40) + "\\if", 120);
        Check.dueFault(lambdas(40) + "(", 120);
        Check.dueFault(lambdas(40) + "(z", 120);
        Check.dueFault(lambdas(40) + "()", 120);
    }

    private static void fortyFirstOfEachKind() {
        String[] more = {"(if 1 2 3)", "(let x 1 2)", "(fix f x 1)", "(+ 1 2)", "(- 1 2)", "(* 1 2)", "(= 1 2)", "(< 1 2)", "(1 2)", "\\x.1"};
        for (String next : more) {
            Check.dueFault(closed("(1", 39, next), NONE);
            Check.dueFault(closed("(1", 40, next), 80);
            Check.dueFault(lambdas(39) + next, NONE);
            Check.dueFault(lambdas(40) + next, 120);
        }
    }

    // "(till their expr ends)"
    private static void openTillTheirExprEnds() {
        String deep = closed("(1", 38, "(+(1 1)(1 1))");
        Check.dueFault(deep, NONE);
        Check.dueFault(closed("(1", 38, "(+(1 1)((1 1)1))"), 2 * 38 + 2 + 5 + 1);
        Check.dueFault(closed("(1", 38, "(+\\x.x\\y.y)"), NONE);
        Check.dueFault(closed("(1", 38, "(+\\x.x\\y.\\z.z)"), 2 * 38 + 2 + 4 + 3);
        Check.dueFault(closed("(1", 38, "(+\\x.\\y.y 1)"), 2 * 38 + 2 + 3);
        // A lambda ends with its body, be it a name, a number or a form.
        Check.dueFault("(" + lambdas(39) + "x" + closed("(1", 39, " 1") + ")", NONE);
        Check.dueFault("(" + lambdas(39) + "1" + closed("(1", 39, " 1") + ")", NONE);
        Check.dueFault("(" + lambdas(38) + "(x x)" + closed("(1", 39, " 1") + ")", NONE);
        Check.dueFault("(" + lambdas(38) + "(x x)" + closed("(1", 40, " 1") + ")", 1 + 38 * 3 + 5 + 39 * 2);
        Check.dueFault("(if" + lambdas(39) + "1" + closed("(1", 39, " 1") + closed("(1", 39, " 1") + ")", NONE);
    }

    // "At most 200 exprs"
    private static void twoHundredExprs() {
        FlowDesk desk = Check.program("\\x." + Check.calls(100));
        Check.due("exprs", desk.told(0), 200);
        Check.due("the last one's kind", desk.expr(199, 0), 1);
        Check.due("the last one's number", desk.expr(199, 1), 1);
        Check.due("no 201st", desk.expr(200, 0), FlowDesk.BAD);
        Check.due("the first one's part", desk.expr(0, 3), 1);
        Check.due("199", Check.program(Check.calls(100)).told(0), 199);
        Check.due("200 otherwise", Check.program("(if 1" + Check.calls(99) + "1)").told(0), 200);
        Check.due("a run of it", desk.run(2000), 1);
    }

    // "the first byte of the 201st expr"
    private static void twoHundredFirstExpr() {
        String text = "\\x.\\y." + Check.calls(100);
        Check.dueFault(text, text.lastIndexOf('1'));
        text = Check.calls(101);
        Check.dueFault(text, text.lastIndexOf('1'));
        String full = "(if(1 1)" + Check.calls(98) + "1";
        Check.dueFault(full + ")", NONE);
        String more = "(if\\x.1" + Check.calls(98) + "(1";
        Check.dueFault(more + " 1))", more.length() + 1);
        Check.dueFault(more + " \n 1))", more.length() + 3);
        Check.dueFault(more + "-1))", more.length());
        Check.dueFault(more + " 1234567))", more.length() + 1);
    }

    /** Of what begins at the 201st expr nothing but its first byte counts. */
    private static void lastExprOfEachKind() {
        String[] whole = {"x", "1", "-1", "123456", "999999"};
        String[] begun = {"x", "z", "if", "zz", "1", "1234567", "-", "-1", "-)", "\\", "\\x.x", "(", "(x x)", "(fix f x x)", "()", ")", "", "+"};
        // let, 1, and a call whose first part has 195 or 197 exprs: the second one is the 199th or the 201st.
        String near = "(let x 1(" + Check.calls(98);
        String far = "(let x 1(" + Check.calls(99);
        for (String next : whole) {
            Check.dueFault(near + next + "))", NONE);
            Check.dueFault(near + "(x " + next + ")))", near.length() + 3);
        }
        for (String next : begun) {
            Check.dueFault(far + next, far.length());
            Check.dueFault(far + " " + next, far.length() + 1);
        }
        Check.due("199 exprs", Check.program(near + "x))").told(0), 199);
        Check.due("200 exprs", Check.program(near + "\\y.x))").told(0), 200);
        Check.dueFault(near + "\\y.\\y.x))", near.length() + 6);
        Check.dueFault(near + "(x x)))", near.length() + 3);
    }

    // "50 functions (\ and fix)"
    private static void fiftyFunctions() {
        FlowDesk desk = Check.program("(" + lambdas(25) + "1" + lambdas(25) + "x)");
        Check.due("functions", desk.told(1), 50);
        Check.due("the last one's label", desk.function(49, 0), 51);
        Check.due("the last one's x", desk.expr(52, 1), 49);
        Check.due("its flow", desk.flow(51), 1L << 49);
        Check.due("no 51st", desk.function(50, 0), FlowDesk.BAD);
        desk = Check.program("(" + closed("(fix f x", 25, " f") + lambdas(25) + "x)");
        Check.due("functions", desk.told(1), 50);
        Check.due("variables", desk.told(2), 75);
        desk = Check.program("(" + lambdas(39) + "1" + lambdas(10) + "(fix f x f))");
        Check.due("functions", desk.told(1), 50);
        Check.due("the fix", desk.function(49, 3), 49);
    }

    /** 49 functions, and a sum in whose second part one or two more may be tried. */
    private static final String FORTY_NINE = "(+(" + "\\x.".repeat(25) + "1" + "\\x.".repeat(24) + "1)";

    // "the first byte .. of the 51st function"
    private static void fiftyFirstLambda() {
        int end = FORTY_NINE.length();
        Check.dueFault(FORTY_NINE + "\\x.x)", NONE);
        Check.dueFault(FORTY_NINE + "\\x.\\y.x)", end + 3);
        Check.dueFault(FORTY_NINE + "\\x. \n\\y.x)", end + 5);
        Check.dueFault(FORTY_NINE + "\\x.\\", end + 3);
        Check.dueFault(FORTY_NINE + "\\x.\\if", end + 3);
        Check.dueFault(FORTY_NINE + "\\x.(fix f x f))", end + 3);
        Check.dueFault(FORTY_NINE + "\\x.(if x(let y x y)(- x 1)))", NONE);
    }

    private static void fiftyFirstFix() {
        int end = FORTY_NINE.length();
        Check.dueFault(FORTY_NINE + "(fix f x x))", NONE);
        Check.dueFault(FORTY_NINE + "(fix f x\\y.x))", end + 8);
        Check.dueFault(FORTY_NINE + "(fix f x(fix g y x)))", end + 8);
        Check.dueFault(FORTY_NINE + "(fix f x ( \n fix g y x)))", end + 9);
        // Its first byte is the bracket, whatever comes behind the word.
        Check.dueFault(FORTY_NINE + "\\x.(fix", end + 3);
        Check.dueFault(FORTY_NINE + "\\x.(fix 1", end + 3);
        Check.dueFault(FORTY_NINE + "\\x.(fix fix", end + 3);
        Check.dueFault(FORTY_NINE + "\\x.(fix.", end + 3);
        // A word that is no key, or a bracket alone, is none.
        Check.dueFault(FORTY_NINE + "\\x.(fixx", end + 4);
        Check.dueFault(FORTY_NINE + "\\x.(fi", end + 4);
        Check.dueFault(FORTY_NINE + "\\x.(", end + 4);
    }

    // "100 VARIABLES": fix brings two for 8 bytes, \ one for 3, let one for 6. With 50 functions, 101 would need 406 bytes.
    private static void noMoreVariablesThanFit() {
        String text = "(" + closed("(fix f x", 38, "\\y.1") + lambdas(11) + "(let a 1 a))";
        FlowDesk desk = Check.program(text);
        Check.due("variables", desk.told(2), 2 * 38 + 1 + 11 + 1);
        Check.due("the last one", desk.expr(desk.told(0) - 1, 1), 88);
        Check.due("its flow", desk.flows(88), 0);
        Check.due("the fix's own flows", desk.flows(74), 1L << 37);
        Check.dueFault(Check.times("(fix f x", 50), 40 * 8);
        desk = Check.program(Check.times("(let f(fix f x f)", 20) + "f" + Check.times(")", 20));
        Check.due("variables", desk.told(2), 60);
        Check.due("what the last f means", desk.expr(desk.told(0) - 1, 1), 57);
    }

    private static void allLimitsAtOnce() {
        // 40 open, 50 functions: the 41st that is open is a function too, and before it the 51st function is not come to.
        String text = "(" + lambdas(10) + "1" + lambdas(39) + "1)";
        Check.dueFault(text, NONE);
        Check.dueFault("(" + lambdas(10) + "1" + lambdas(40) + "1)", 1 + 30 + 1 + 39 * 3);
        Check.dueFault("(" + lambdas(11) + "1" + lambdas(39) + "1)", NONE);
        Check.dueFault("(" + lambdas(12) + "1" + lambdas(39) + "1)", 1 + 36 + 1 + 38 * 3);
    }

    // "the end, if more must come"
    private static void endIfMoreMustCome() {
        String[] starts = {"", " ", "(", "( ", "(+", "(+ ", "(+ 1", "(+ 1 ", "(+ 1 2", "(+ 1 2 ", "\\", "\\x", "\\ ", "\\x ", "\\x.", "\\x. ",
            "(if", "(if 1", "(if 1 2", "(if 1 2 3", "(let", "(let ", "(let x", "(let x ", "(let x 1", "(let x 1 ", "(let x 1 x",
            "(fix", "(fix f", "(fix f x", "(fix f x ", "(fix f x f", "(1", "(1 ", "(1 1", "(1 1 ", "-", "(+ -", "(-", "(- ", "(-1", "((1 2)",
            "(\\x.x", "(\\x.x 1"};
        for (String start : starts) {
            Check.dueFault(start, start.length());
        }
        Check.dueFault(Check.times(" ", 399) + "(", 400);
    }

    // "the first byte with which no such text goes on"
    private static void firstByteThatDoesNotGoOn() {
        Check.dueFault("\\x;x", 2);
        Check.dueFault("\\;", 1);
        Check.dueFault("(+ 1 2]", 6);
        Check.dueFault("(let x. 1)", 6);
        Check.dueFault("(let x ) 1)", 7);
        Check.dueFault("(fix f f. f)", 8);
        Check.dueFault("(fix f . f)", 7);
        Check.dueFault(".", 0);
        Check.dueFault("(.x 1)", 1);
        Check.dueFault("(+ 1 2))", 7);
        Check.dueFault("(+ 1 2)(", 7);
        Check.dueFault("(+ + 1)", 3);
        Check.dueFault("\\x.+", 3);
        Check.dueFault("\\x.x.", 4);
        Check.dueFault("1\u0000", 1);
        Check.dueFault("\u00ff", 0);
        Check.dueFault("(\u0080 1)", 1);
    }

    // "or, if it is before that: .. of a NAME that is not bound"
    private static void nameThatIsNotBound() {
        Check.dueFault("x", 0);
        Check.dueFault(" \nx", 2);
        Check.dueFault("x123", 0);
        Check.dueFault("(x 1)", 1);
        Check.dueFault("(1 x)", 3);
        Check.dueFault("\\x.y", 3);
        Check.dueFault("\\x.x1", 3);
        Check.dueFault("\\x1.x", 4);
        Check.dueFault("(let x 1 (+ x y", 14);
        Check.dueFault("(if 0 x 1)", 6);
        Check.dueFault("(i 1 2 3)", 1);
        Check.dueFault("(f", 1);
    }

    private static void firstOfTwoFaults() {
        Check.dueFault("(x y)", 1);
        Check.dueFault("(+ x )", 3);
        Check.dueFault("(+ ) x", 3);
        Check.dueFault("(+ 1234567 x)", 9);
        Check.dueFault("(+ x 1234567)", 3);
        Check.dueFault("(xx 1234567)", 1);
        Check.dueFault("x x", 0);
        Check.dueFault("1 x", 2);
        Check.dueFault("1 xx", 2);
    }

    private static void limitBeforeOtherFaults() {
        Check.dueFault(lambdas(40) + "(z z)", 120);
        Check.dueFault(FORTY_NINE + "\\x.\\y.z)", FORTY_NINE.length() + 3);
        String far = "(let x 1(" + Check.calls(99);
        Check.dueFault(far + "(((", far.length());
        Check.dueFault(far + "xx", far.length());
    }

    private static void otherFaultsBeforeLimit() {
        Check.dueFault("(z" + lambdas(41) + "1)", 1);
        Check.dueFault("(if z" + closed("(1", 41, "1"), 4);
        Check.dueFault("(+ 1)" + lambdas(41), 4);
        Check.dueFault(lambdas(39) + "\\xx." + lambdas(9), 39 * 3 + 1);
        Check.dueFault("(z" + Check.calls(101) + ")", 1);
        Check.dueFault(lambdas(40) + "x(", 121);
        Check.dueFault(FORTY_NINE + "z\\x.\\y.z)", FORTY_NINE.length());
    }

    // "(the program that was there stays)"
    private static void faultKeepsAll() {
        String[] texts = {"", " ", "x", "(+ 1 2", "(+ 1 2))", "1234567", "-", "if", "(xx 1)", lambdas(41) + "1", lambdas(40) + "(", "\\x.\\y.z",
            FORTY_NINE + "\\x.\\y.1)", FORTY_NINE + "\\x.(fix f x 1))", Check.calls(101), "(let f (fix g y (g y)) (f z))"};
        for (String text : texts) {
            State.dueRefused("read() of " + text, () -> ranThenTyped(text), desk -> desk.read() >= 0 ? 1 : 0, 1);
            State.dueRefused("read() of " + text, () -> Check.typed(text), desk -> desk.read() >= 0 ? 1 : 0, 1);
        }
    }

    private static FlowDesk ranThenTyped(String text) {
        FlowDesk desk = Check.program("(let f \\x.(x 1) (if (f \\y.y) (fix g z (g z)) 2))");
        desk.run(99);
        Check.retype(desk, text);
        return desk;
    }

    private static void nothingStaysOfAFault() {
        String[] texts = {lambdas(40) + "(", "(let a 1 (let b 2 (let c 3 z", Check.calls(101), FORTY_NINE + "\\x.\\y.1)", "(fix f x \\y.("};
        String[] next = {"\\x.x", lambdas(40) + "x", "\\x." + Check.calls(100), FORTY_NINE + "\\x.1)", "(let a 1 (fix f x (f a)))"};
        for (String text : texts) {
            for (String good : next) {
                State.dueSame("behind a fault", () -> readBehind(text, good), () -> Check.program(good));
            }
            FlowDesk desk = Check.typed(text);
            desk.read();
            String[] names = {"a", "b", "c", "f", "x", "y"};
            for (String name : names) {
                Check.retype(desk, name);
                Check.due(name + " behind " + text, desk.read(), 0);
            }
        }
    }

    private static FlowDesk readBehind(String text, String good) {
        FlowDesk desk = Check.typed(text);
        desk.read();
        Check.retype(desk, good);
        Check.due("read() of " + good + " behind " + text, desk.read(), NONE);
        return desk;
    }

    // "The TEXT (it stays)"
    private static void textStays() {
        String text = "(let x 1 (+ x x)) ";
        FlowDesk desk = Check.program(text);
        Check.due("the text", Check.text(desk, text.length()), text);
        Check.due("its bytes", desk.type(0, 0), text.length());
        Check.due("read again", desk.read(), NONE);
        Check.due("more behind it", desk.type('1', 1), text.length() + 1);
        Check.due("is a fault now", desk.read(), text.length());
    }
}
