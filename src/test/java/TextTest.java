/** Promises 1 (a new object), 2 (type), 3 (clear), 17 (write) and 18 (out). */
public final class TextTest {
    private static final int NOTHING = 0, ILLEGAL_ARGUMENT = 1, UNSUPPORTED = 2;

    public static void main(String[] args) {
        newObject();
        constants();
        typing();
        wrongCounts();
        fullText();
        clearing();
        telling();
        tellingEdges();
        writing();
        writingNumbers();
        writingNames();
        writingDeep();
        writingTooLong();
        writingKeepsRun();
        Check.end();
    }

    private static int thrown(FlowDesk desk, long bytes, int n) {
        try {
            desk.type(bytes, n);
            return NOTHING;
        } catch (IllegalArgumentException e) {
            return ILLEGAL_ARGUMENT;
        } catch (UnsupportedOperationException e) {
            return UNSUPPORTED;
        }
    }

    private static void newObject() {
        FlowDesk desk = new FlowDesk();
        for (int i = -1; i <= 8; i++) {
            Check.due("new: told", desk.told(i), FlowDesk.BAD);
            Check.due("new: expr", desk.expr(0, i), FlowDesk.BAD);
            Check.due("new: function", desk.function(0, i), FlowDesk.BAD);
            Check.due("new: flow", desk.flow(i), 0);
            Check.due("new: flows", desk.flows(i), 0);
            Check.due("new: reaches", desk.reaches(i, i), FlowDesk.BAD);
            Check.due("new: single", desk.single(i), FlowDesk.BAD);
            Check.due("new: run", desk.run(i), FlowDesk.BAD);
            Check.due("new: used", desk.used(i), 0);
            Check.due("new: inline", desk.inline(i), FlowDesk.BAD);
            Check.due("new: drop", desk.drop(i), FlowDesk.BAD);
            Check.due("new: out", desk.out(i), 0);
        }
        Check.due("new: result", desk.result(), 0);
        Check.due("new: write", desk.write(), FlowDesk.BAD);
        Check.due("new: clear", desk.clear(), 0);
        Check.due("new: read", desk.read(), 0);
        Check.due("two objects", Check.program("1").told(0) + new FlowDesk().told(0), 1 + FlowDesk.BAD);
    }

    private static void constants() {
        Check.due("NONE", FlowDesk.NONE, -1);
        Check.due("BAD", FlowDesk.BAD, -2);
    }

    private static void typing() {
        FlowDesk desk = new FlowDesk();
        Check.due("type of none", desk.type(-1L, 0), 0);
        Check.due("type of three", desk.type(0x44434241L, 3), 3);
        Check.due("type behind", desk.type(0xFFFFFFFFFFFFFF80L, 1), 4);
        Check.due("type of eight", desk.type(0x8070605040302010L, 8), 12);
        Check.due("what was typed", desk.out(0), 0x4030201080434241L);
        Check.due("what was typed, on", desk.out(4), 0x8070605040302010L);
        Check.due("only n bytes count", desk.out(12), 0);
    }

    private static void wrongCounts() {
        FlowDesk desk = Check.typed("12");
        int[] wrong = {-1, 9, 64, Integer.MIN_VALUE, Integer.MAX_VALUE};
        for (int n : wrong) {
            Check.due("type of " + n, thrown(desk, 0x31, n), ILLEGAL_ARGUMENT);
        }
        Check.due("the text stays", desk.clear(), 2);
    }

    private static void fullText() {
        FlowDesk desk = Check.typed(Check.times(" ", 396));
        Check.due("five more", thrown(desk, 0x31, 5), UNSUPPORTED);
        Check.due("four more", desk.type(0x31313131L, 4), 400);
        Check.due("none more", desk.type(0, 0), 400);
        Check.due("one more", thrown(desk, 0x31, 1), UNSUPPORTED);
        Check.due("eight more", thrown(desk, 0x31, 8), UNSUPPORTED);
        Check.due("nine more", thrown(desk, 0x31, 9), ILLEGAL_ARGUMENT);
        Check.due("fewer than none more", thrown(desk, 0x31, -1), ILLEGAL_ARGUMENT);
        Check.due("the last bytes", desk.out(395), 0x3131313120L);
        Check.due("a number behind many blanks", desk.read(), FlowDesk.NONE);
        Check.due("the number", desk.expr(0, 1), 1111);
        Check.due("all had", desk.clear(), 400);
    }

    private static void clearing() {
        FlowDesk desk = Check.program("(+ 1 2)");
        desk.run(9);
        Check.due("clear", desk.clear(), 7);
        Check.due("clear again", desk.clear(), 0);
        Check.due("nothing to tell", desk.out(0), 0);
        Check.due("the program stays", desk.told(0), 3);
        Check.due("the run stays", desk.result(), 3);
        Check.type(desk, "x");
        Check.due("nothing old behind", desk.out(0), 'x');
    }

    private static void telling() {
        FlowDesk desk = Check.typed("abcdefghij");
        Check.due("out(0)", desk.out(0), Check.packed("abcdefgh"));
        Check.due("out(1)", desk.out(1), Check.packed("bcdefghi"));
        Check.due("out(5)", desk.out(5), Check.packed("fghij"));
        Check.due("out(9)", desk.out(9), 'j');
        Check.due("out(10)", desk.out(10), 0);
        FlowDesk high = new FlowDesk();
        high.type(-1L, 8);
        Check.due("all bits", high.out(0), -1L);
        Check.due("not read as a sign", high.out(7), 255);
    }

    private static void tellingEdges() {
        FlowDesk desk = Check.typed("abcdefghij");
        Check.due("out(-1)", desk.out(-1), Check.packed("abcdefg") << 8);
        Check.due("out(-7)", desk.out(-7), (long) 'a' << 56);
        Check.due("out(-8)", desk.out(-8), 0);
        Check.due("out(lowest)", desk.out(Integer.MIN_VALUE), 0);
        Check.due("out(highest)", desk.out(Integer.MAX_VALUE), 0);
        Check.due("out(highest - 3)", desk.out(Integer.MAX_VALUE - 3), 0);
        Check.due("out(400)", desk.out(400), 0);
    }

    private static void dueWritten(String text, String want) {
        FlowDesk desk = Check.program(text);
        Check.due("write() of " + text, desk.write(), want.length());
        Check.due("write() of " + text, Check.text(desk, want.length()), want);
        Check.due("nothing behind what is written", desk.out(want.length()), 0);
    }

    private static void writing() {
        dueWritten("(if 1 2 3)", "(if 1 2 3)");
        dueWritten("( let  a\n1 a )", "(let v0 1 v0)");
        dueWritten("\\x.x", "\\v0.v0");
        dueWritten("(fix g y(g y))", "(fix v0 v1 (v0 v1))");
        dueWritten("(+ 1 2)", "(+ 1 2)");
        dueWritten("(-(*1 2)(=3 4))", "(- (* 1 2) (= 3 4))");
        dueWritten("(<1-2)", "(< 1 -2)");
        dueWritten("(\\x.x 1)", "(\\v0.v0 1)");
        dueWritten("((1 2)(3 4))", "((1 2) (3 4))");
        dueWritten("(\\x.\\y.(x y)\\z.z)", "(\\v0.\\v1.(v0 v1) \\v2.v2)");
        dueWritten("(if(+ 1 2)\\x.x(fix f x f))", "(if (+ 1 2) \\v0.v0 (fix v1 v2 v1))");
    }

    private static void writingNumbers() {
        dueWritten("0", "0");
        dueWritten("-0", "0");
        dueWritten("000", "0");
        dueWritten("007", "7");
        dueWritten("-012", "-12");
        dueWritten("10", "10");
        dueWritten("100200", "100200");
        dueWritten("999999", "999999");
        dueWritten("-999999", "-999999");
        dueWritten("(- -3 4)", "(- -3 4)");
        dueWritten("(-3 4)", "(-3 4)");
    }

    private static void writingNames() {
        dueWritten("(let x 3 (let x (+ x 1) x))", "(let v0 3 (let v1 (+ v0 1) v1))");
        dueWritten("(fix x x x)", "(fix v0 v1 v1)");
        dueWritten("\\a.\\b.\\c.\\d.\\e.\\f.\\g.\\h.\\i.\\j.\\k.k", "\\v0.\\v1.\\v2.\\v3.\\v4.\\v5.\\v6.\\v7.\\v8.\\v9.\\v10.v10");
    }

    private static void writingDeep() {
        String deep = Check.times("(+ 1 ", 40) + "1" + Check.times(")", 40);
        dueWritten(deep, deep);
        FlowDesk again = Check.program(deep);
        again.write();
        Check.due("what is written can be read", again.read(), FlowDesk.NONE);
        Check.due("and written again", again.write(), deep.length());
        Check.due("and again", again.write(), deep.length());
    }

    /** Written, each level has two blanks more: 399, 400 and 401 bytes. */
    private static void writingTooLong() {
        for (int digits = 2; digits <= 4; digits++) {
            String typed = Check.times("(+11111", 39) + "(+" + Check.times("1", digits) + "-2" + Check.times(")", 40);
            int want = 39 * "(+ 11111 ".length() + "(+  -2".length() + digits + 40;
            boolean fits = want <= 400;
            FlowDesk desk = Check.program(typed);
            long before = desk.out(0);
            Check.due("write of " + want, desk.write(), fits ? want : FlowDesk.NONE);
            Check.due("its first bytes", desk.out(0), fits ? Check.packed("(+ 11111") : before);
            Check.due("the text has", desk.clear(), fits ? want : typed.length());
        }
    }

    private static void writingKeepsRun() {
        FlowDesk desk = Check.program("(+ 1 2)");
        desk.run(9);
        desk.write();
        Check.due("the run stays", desk.result(), 3);
        Check.due("its steps stay", desk.told(7), 3);
        Check.due("the program stays", desk.told(0), 3);
    }
}
