/** The boundaries of promises 7 (flow), 8 (flows), 10 (reaches) and 11 (single). */
public final class FlowEdgeTest {
    private static final int NONE = FlowDesk.NONE, BAD = FlowDesk.BAD;
    private static final int[] FAR = {Integer.MIN_VALUE, -256, -2, 200, 256, 1 << 16, Integer.MAX_VALUE};

    public static void main(String[] args) {
        emptyFlows();
        fullFlows();
        highestBit();
        leastFlows();
        flowsThatComeRound();
        flowsOfNoLabel();
        flowsOfNoVariable();
        reachesNone();
        reachesAtOnce();
        reachesThroughMany();
        reachesThroughTheFirst();
        reachesNotFromWithin();
        reachesOfNoFunction();
        singleOfNone();
        singleOfOne();
        singleOfTwo();
        singleOfNoCall();
        flowsOfAnOlderProgram();
        Check.end();
    }

    private static void dueFlow(String text, int label, long want) {
        Check.due("flow(" + label + ") of " + text, Check.program(text).flow(label), want);
    }

    // "(+ - * = < have none.)", and numbers have none.
    private static void emptyFlows() {
        dueFlow("1", 0, 0);
        String[] signs = {"+", "-", "*", "=", "<"};
        for (String sign : signs) {
            dueFlow("(" + sign + " \\x.x \\y.y)", 0, 0);
            dueFlow("(" + sign + " \\x.x \\y.y)", 3, 2);
        }
        dueFlow("\\x.x", 1, 0);
        dueFlow("(1 \\x.x)", 0, 0);
        dueFlow("(if \\x.x 1 2)", 0, 0);
        dueFlow("(let a \\x.x 1)", 0, 0);
        dueFlow("(\\x.1 \\y.y)", 0, 0);
        Check.due("flows(0) of an x that nobody calls", Check.program("\\x.x").flows(0), 0);
        Check.due("flows(1) of a fix that nobody calls", Check.program("(fix f x x)").flows(1), 0);
    }

    /** As many functions in one flow as can stand in one another; of 50 the upper ones. */
    private static void fullFlows() {
        String choice = Check.times("(if 1\\y.1 ", 30) + "\\y.2" + Check.times(")", 30);
        FlowDesk desk = Check.program("(let f " + choice + "f)");
        Check.due("31 functions", desk.flows(0), (1L << 31) - 1);
        Check.due("the let's flow", desk.flow(0), (1L << 31) - 1);
        desk = Check.program("(" + Check.times("\\x.", 19) + "1" + choice + ")");
        Check.due("functions", desk.told(1), 50);
        Check.due("the upper 31", desk.flows(0), (1L << 50) - (1L << 19));
        Check.due("what the call answers", desk.flow(0), 2);
    }

    private static void highestBit() {
        FlowDesk desk = Check.program("(let a(" + Check.times("\\x.", 25) + "1" + Check.times("\\x.", 24) + "1)(\\z.z 1))");
        Check.due("functions", desk.told(1), 50);
        Check.due("the 50th", desk.flow(desk.function(49, 0)), 1L << 49);
        Check.due("single", desk.single(desk.function(49, 0) - 1), 49);
        Check.due("calls of it", desk.function(49, 5), 1);
        Check.due("it reaches none", desk.reaches(49, 49), 0);
    }

    // "the least ones with"
    private static void leastFlows() {
        // Nothing calls f, so nothing comes to its x, though f is there.
        FlowDesk desk = Check.program("(let f \\x.x (let g \\y.y (g f)))");
        Check.due("x", desk.flows(1), 0);
        Check.due("y", desk.flows(3), 1);
        Check.due("the answer", desk.flow(0), 1);
        // A circle of two does not feed itself.
        desk = Check.program("(fix f x (if x (f x) (f (f x))))");
        Check.due("x of the circle", desk.flows(1), 0);
        Check.due("the body", desk.flow(1), 0);
    }

    private static void flowsThatComeRound() {
        // What goes in at the one end comes out at the other after many calls of functions that stand before it.
        FlowDesk desk = Check.program("(let i \\x.x (let j \\y.(i y) (let k \\z.(j z) (k (k \\w.w)))))");
        Check.due("x", desk.flows(1), 8);
        Check.due("y", desk.flows(3), 8);
        Check.due("z", desk.flows(5), 8);
        Check.due("the answer", desk.flow(0), 8);
        desk = Check.program("(let k \\g.\\z.(g z) (let j (k (k (k \\x.x))) (j \\w.w)))");
        Check.due("g", desk.flows(1), 2 + 4);
        Check.due("z", desk.flows(2), 8);
        Check.due("x", desk.flows(4), 8);
        Check.due("the answer", desk.flow(0), 8);
        // What c answers is called again, and that may be c.
        desk = Check.program("(\\a.((a a) \\b.b) \\c.c)");
        Check.due("c", desk.flows(2), 2 + 4);
        Check.due("the answer", desk.flow(0), 2 + 4);
    }

    // "0 also where BAD would be."
    private static void flowsOfNoLabel() {
        FlowDesk desk = Check.program("(let v \\a.a v)");
        Check.due("the first label", desk.flow(0), 1);
        Check.due("the last label", desk.flow(3), 1);
        Check.due("one before", desk.flow(-1), 0);
        Check.due("one behind", desk.flow(4), 0);
        for (int label : FAR) {
            Check.due("flow(" + label + ")", desk.flow(label), 0);
        }
        Check.due("without program", Check.typed("\\x.x").flow(0), 0);
    }

    private static void flowsOfNoVariable() {
        FlowDesk desk = Check.program("(let v \\a.a (let w v 1))");
        Check.due("the first variable", desk.flows(0), 1);
        Check.due("the last variable", desk.flows(2), 1);
        Check.due("one before", desk.flows(-1), 0);
        Check.due("one behind", desk.flows(3), 0);
        for (int variable : FAR) {
            Check.due("flows(" + variable + ")", desk.flows(variable), 0);
        }
        Check.due("without program", Check.typed("(let v \\a.a 1)").flows(0), 0);
        Check.due("without variables", Check.program("1").flows(0), 0);
    }

    // "it REACHES u if it CALLS it, or one that REACHES it"
    private static void reachesNone() {
        FlowDesk desk = Check.program("(\\x.1 \\y.2)");
        for (int t = 0; t < 2; t++) {
            for (int u = 0; u < 2; u++) {
                Check.due(t + " reaches " + u, desk.reaches(t, u), 0);
            }
        }
    }

    private static void reachesAtOnce() {
        FlowDesk desk = Check.program("(let g \\y.y \\x.(g x))");
        Check.due("x's to y's", desk.reaches(1, 0), 1);
        Check.due("y's to x's", desk.reaches(0, 1), 0);
        Check.due("x's to itself", desk.reaches(1, 1), 0);
        desk = Check.program("(fix f x (f x))");
        Check.due("a fix to itself", desk.reaches(0, 0), 1);
        // Two that may be called at one place.
        desk = Check.program("\\x.((if x \\y.y \\z.z) 1)");
        Check.due("to the one", desk.reaches(0, 1), 1);
        Check.due("to the other", desk.reaches(0, 2), 1);
        Check.due("to itself", desk.reaches(0, 0), 0);
    }

    private static void reachesThroughMany() {
        // Each calls the one before: the last reaches all, the first none.
        StringBuilder text = new StringBuilder("(let a \\x.1 ");
        String[] names = {"a", "b", "c", "d", "e", "f", "g", "h", "i", "j", "k", "l"};
        for (int i = 1; i < names.length; i++) {
            text.append("(let ").append(names[i]).append(" \\x.(").append(names[i - 1]).append(" x) ");
        }
        FlowDesk desk = Check.program(text + "1" + Check.times(")", names.length));
        for (int t = 0; t < names.length; t++) {
            for (int u = 0; u < names.length; u++) {
                Check.due(t + " reaches " + u, desk.reaches(t, u), u < t ? 1 : 0);
            }
        }
        // Each calls the one that stands behind it, and the last one the first: all reach all.
        desk = Check.program("(fix f x (\\a.(\\b.(\\c.(f c) b) a) x))");
        for (int t = 0; t < 4; t++) {
            for (int u = 0; u < 4; u++) {
                Check.due(t + " reaches " + u + " round", desk.reaches(t, u), 1);
            }
        }
    }

    private static void reachesThroughTheFirst() {
        // Function 0 is the one between.
        FlowDesk desk = Check.program("(let m \\h.(h 1) \\x.(m \\y.y))");
        Check.due("to the first", desk.reaches(1, 0), 1);
        Check.due("through the first", desk.reaches(1, 2), 1);
        Check.due("the first itself", desk.reaches(0, 2), 1);
        // Function 0 is where it begins.
        desk = Check.program("\\x.(\\y.(\\z.z y) x)");
        Check.due("from the first", desk.reaches(0, 1), 1);
        Check.due("from the first, through another", desk.reaches(0, 2), 1);
        Check.due("not back", desk.reaches(2, 0) + desk.reaches(1, 0), 0);
    }

    // "but in no other FUNCTION within it"
    private static void reachesNotFromWithin() {
        FlowDesk desk = Check.program("(let g \\z.z \\x.\\y.(g y))");
        Check.due("the outer one", desk.reaches(1, 0), 0);
        Check.due("the inner one", desk.reaches(2, 0), 1);
        desk = Check.program("(let g \\z.z \\x.(fix f y (g y)))");
        Check.due("with a fix within", desk.reaches(1, 0), 0);
        desk = Check.program("(let g \\z.z \\x.(\\y.1 (g x)))");
        Check.due("beside a function within", desk.reaches(1, 0), 1);
        desk = Check.program("(let g \\z.z (g 1))");
        Check.due("a call in no function", desk.reaches(0, 0), 0);
    }

    // "BAD: there is no such .. FUNCTION"
    private static void reachesOfNoFunction() {
        FlowDesk desk = Check.program("(\\x.x \\y.y)");
        int[] near = {-1, 2};
        for (int wrong : near) {
            dueBadReaches(desk, wrong);
        }
        for (int wrong : FAR) {
            dueBadReaches(desk, wrong);
        }
        Check.due("the last two", desk.reaches(1, 1), 0);
        Check.due("without functions", Check.program("1").reaches(0, 0), BAD);
        Check.due("without program", Check.typed("\\x.x").reaches(0, 0), BAD);
        desk = Check.program("(" + Check.times("\\x.", 25) + "1" + Check.times("\\x.", 25) + "1)");
        Check.due("the 50th", desk.reaches(49, 49), 0);
        Check.due("the 51st", desk.reaches(50, 49), BAD);
        Check.due("the 51st", desk.reaches(49, 50), BAD);
    }

    private static void dueBadReaches(FlowDesk desk, int wrong) {
        Check.due("reaches(" + wrong + ", 0)", desk.reaches(wrong, 0), BAD);
        Check.due("reaches(0, " + wrong + ")", desk.reaches(0, wrong), BAD);
        Check.due("reaches(" + wrong + ", " + wrong + ")", desk.reaches(wrong, wrong), BAD);
    }

    // "A CALL is SINGLE if the FLOW of its OPERATOR has just one FUNCTION."
    private static void singleOfNone() {
        String[] texts = {"(1 2)", "((1 2) 3)", "((+ 1 2) 3)", "(\\x.(x 1) 2)", "((let a \\x.x 1) 2)"};
        int[] calls = {0, 0, 0, 2, 0};
        for (int i = 0; i < texts.length; i++) {
            Check.due("single of " + texts[i], Check.program(texts[i]).single(calls[i]), NONE);
        }
    }

    private static void singleOfOne() {
        Check.due("the first function", Check.program("(\\x.x 2)").single(0), 0);
        Check.due("a fix", Check.program("((fix f x x) 2)").single(0), 0);
        Check.due("twice the same", Check.program("(let f \\x.x ((if 1 f f) 2))").single(3), 0);
        Check.due("with a number beside it", Check.program("((if 1 2 \\x.x) 2)").single(0), 0);
        Check.due("from another call", Check.program("((\\x.x \\y.y) 2)").single(0), 1);
        Check.due("in code that never runs", Check.program("(if 0 (\\x.x 1) 2)").single(2), 0);
        Check.due("within itself", Check.program("(fix f x (f x))").single(1), 0);
    }

    private static void singleOfTwo() {
        Check.due("two", Check.program("((if 1 \\x.x \\y.y) 2)").single(0), NONE);
        Check.due("two for one x", Check.program("(let i \\h.(h 1) (+ (i \\x.x) (i \\y.y)))").single(2), NONE);
        Check.due("31", Check.program("(" + Check.times("(if 1\\y.1 ", 30) + "\\y.2" + Check.times(")", 30) + "5)").single(0), NONE);
    }

    // "BAD: there is no such CALL."
    private static void singleOfNoCall() {
        String[] texts = {"1", "\\x.x", "(fix f x x)", "(if 1 2 3)", "(let x 1 x)", "(+ 1 2)", "(- 1 2)", "(* 1 2)", "(= 1 2)", "(< 1 2)"};
        for (String text : texts) {
            FlowDesk desk = Check.program(text);
            for (int label = -1; label <= desk.told(0); label++) {
                Check.due("single(" + label + ") of " + text, desk.single(label), BAD);
            }
        }
        FlowDesk desk = Check.program("(\\x.x 2)");
        for (int label : FAR) {
            Check.due("single(" + label + ")", desk.single(label), BAD);
        }
        Check.due("one behind the last", desk.single(4), BAD);
        Check.due("without program", Check.typed("(1 2)").single(0), BAD);
    }

    private static void flowsOfAnOlderProgram() {
        String old = "(let f (fix g x (g \\y.y)) (f f))";
        String text = "(let f \\x.1 (2 f))";
        State.dueSame("behind another program", () -> Check.readInPlace(old, text), () -> Check.program(text));
        FlowDesk desk = Check.readInPlace(old, text);
        Check.due("no old flow", desk.flow(8), 0);
        Check.due("no old flows", desk.flows(3), 0);
    }
}
