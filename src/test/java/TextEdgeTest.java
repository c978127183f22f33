import java.util.function.ToLongFunction;

/** The boundaries of promises 1 (a new object), 2 (type), 3 (clear), 17 (write) and 18 (out), and of an object's life. */
public final class TextEdgeTest {
    private static final int NONE = FlowDesk.NONE, BAD = FlowDesk.BAD, MOST = 400, LIFE = 512;
    private static final int ILLEGAL_ARGUMENT = -11, UNSUPPORTED = -12;

    public static void main(String[] args) {
        newObject();
        nothingFromRefusedCalls();
        bytesThatFit();
        bytesThatDoNot();
        countsFrom0To8();
        otherCounts();
        wrongCountIntoFullText();
        onlyTheLowestBytes();
        clearFromNoneToFull();
        clearLeavesTheRest();
        roomBehindClear();
        writtenUpTo400();
        writtenOver400();
        writtenAfterChangesOver400();
        writtenWithoutProgram();
        writtenOverLongerText();
        typedBehindWhatIsWritten();
        writtenNumbers();
        writtenVariables();
        writtenBlanks();
        outRoundTheStart();
        outRoundTheEnd();
        outOfFullText();
        outFarOff();
        allCallsOfALife();
        Check.end();
    }

    private static int typeOr(FlowDesk desk, long bytes, int n) {
        try {
            return desk.type(bytes, n);
        } catch (IllegalArgumentException e) {
            return ILLEGAL_ARGUMENT;
        } catch (UnsupportedOperationException e) {
            return UNSUPPORTED;
        }
    }

    /** A program that was run, and a text of so many bytes behind it. */
    private static FlowDesk busy(int bytes) {
        FlowDesk desk = Check.program("(\\x.(+ x 1) 4)");
        desk.run(99);
        Check.retype(desk, Check.times("q", bytes));
        return desk;
    }

    // "No TEXT, no program."
    private static void newObject() {
        FlowDesk desk = new FlowDesk();
        Check.due("a new text's bytes", desk.type(0, 0), 0);
        Check.due("a new text's end", desk.read(), 0);
        for (int what = 0; what < 8; what++) {
            Check.due("told(" + what + ") of a new object", desk.told(what), BAD);
        }
        Check.due("a new object's result", desk.result(), 0);
    }

    private static void nothingFromRefusedCalls() {
        for (int i = -1; i <= 1; i++) {
            int wrong = i;
            dueRefusedNew("told", desk -> desk.told(wrong), BAD);
            dueRefusedNew("expr", desk -> desk.expr(wrong, 0), BAD);
            dueRefusedNew("flow", desk -> desk.flow(wrong), 0);
            dueRefusedNew("flows", desk -> desk.flows(wrong), 0);
            dueRefusedNew("function", desk -> desk.function(wrong, 0), BAD);
            dueRefusedNew("reaches", desk -> desk.reaches(wrong, 0), BAD);
            dueRefusedNew("single", desk -> desk.single(wrong), BAD);
            dueRefusedNew("run", desk -> desk.run(wrong), BAD);
            dueRefusedNew("used", desk -> desk.used(wrong), 0);
            dueRefusedNew("inline", desk -> desk.inline(wrong), BAD);
            dueRefusedNew("drop", desk -> desk.drop(wrong), BAD);
        }
        dueRefusedNew("run(2000)", desk -> desk.run(2000), BAD);
        dueRefusedNew("read", FlowDesk::read, 0);
        dueRefusedNew("write", FlowDesk::write, BAD);
        dueRefusedNew("clear", FlowDesk::clear, 0);
    }

    private static void dueRefusedNew(String call, ToLongFunction<FlowDesk> asked, long want) {
        State.dueRefused(call + " of a new object", FlowDesk::new, asked, want);
    }

    // "THE TEXT has up to 400 bytes."
    private static void bytesThatFit() {
        for (int n = 0; n <= 8; n++) {
            FlowDesk desk = busy(MOST - n);
            Check.due("type of the last " + n, desk.type(0x3837363534333231L, n), MOST);
            Check.due("what they are", desk.out(MOST - n), Check.packed("12345678".substring(0, n)));
            Check.due("what is before them", desk.out(MOST - n - 1) & 255, 'q');
        }
    }

    // "UnsupportedOperationException: it would have more than 400."
    private static void bytesThatDoNot() {
        for (int n = 1; n <= 8; n++) {
            for (int had = MOST - n + 1; had <= MOST; had++) {
                int bytes = had;
                int more = n;
                State.dueRefused("type of " + n + " behind " + had, () -> busy(bytes), desk -> typeOr(desk, -1L, more), UNSUPPORTED);
            }
        }
        FlowDesk desk = busy(MOST - 3);
        Check.due("four are too many", typeOr(desk, 0, 4), UNSUPPORTED);
        Check.due("three are not", typeOr(desk, 0, 3), MOST);
    }

    // "IllegalArgumentException: n is not 0 .. 8"
    private static void countsFrom0To8() {
        for (int n = 0; n <= 8; n++) {
            FlowDesk desk = new FlowDesk();
            Check.due("type of " + n, typeOr(desk, 0x6867666564636261L, n), n);
            Check.due("what was typed", desk.out(0), Check.packed("abcdefgh".substring(0, n)));
        }
    }

    private static void otherCounts() {
        int[] wrong = {-1, 9, -8, 16, 256, Integer.MIN_VALUE, Integer.MIN_VALUE + 8, Integer.MAX_VALUE};
        for (int n : wrong) {
            State.dueRefused("type of " + n, () -> busy(5), desk -> typeOr(desk, 0x31, n), ILLEGAL_ARGUMENT);
            State.dueRefused("type of " + n, FlowDesk::new, desk -> typeOr(desk, 0x31, n), ILLEGAL_ARGUMENT);
        }
    }

    /** Both are wrong: n is none that could be typed at all. */
    private static void wrongCountIntoFullText() {
        int[] wrong = {-1, 9, Integer.MAX_VALUE, Integer.MAX_VALUE - MOST, Integer.MIN_VALUE};
        for (int n : wrong) {
            State.dueRefused("type of " + n + " behind all", () -> busy(MOST), desk -> typeOr(desk, 0x31, n), ILLEGAL_ARGUMENT);
        }
    }

    // "The n lowest bytes of a number, the lowest first"
    private static void onlyTheLowestBytes() {
        FlowDesk desk = new FlowDesk();
        desk.type(0x7FFFFFFFFFFFFF80L, 1);
        desk.type(0xFF00L, 1);
        desk.type(Long.MIN_VALUE, 8);
        desk.type(0xFFFFFFFF000000FFL, 4);
        Check.due("0x80, 0, then seven of 0", desk.out(0), 0x80L);
        Check.due("the highest byte, then the four", desk.out(9), 0x000000FF80L);
        Check.due("bytes", desk.type(-1L, 0), 14);
    }

    // "The TEXT is empty: how many bytes it had."
    private static void clearFromNoneToFull() {
        int[] sizes = {0, 1, 7, 8, 9, MOST - 1, MOST};
        for (int size : sizes) {
            FlowDesk desk = busy(size);
            Check.due("clear of " + size, desk.clear(), size);
            Check.due("then it has", desk.type(0, 0), 0);
            for (int i = 0; i <= MOST; i += 8) {
                Check.due("out(" + i + ") behind clear", desk.out(i), 0);
            }
            Check.due("clear again", desk.clear(), 0);
        }
    }

    private static void clearLeavesTheRest() {
        State.dueSame("behind clear", () -> {
            FlowDesk full = busy(MOST);
            full.clear();
            return full;
        }, () -> busy(0));
        FlowDesk desk = busy(MOST);
        desk.clear();
        Check.due("nothing to read", desk.read(), 0);
        Check.due("and the program stays", desk.told(0), 6);
    }

    private static void roomBehindClear() {
        FlowDesk desk = busy(MOST);
        Check.due("full", typeOr(desk, 0x31, 1), UNSUPPORTED);
        desk.clear();
        Check.due("not full", typeOr(desk, 0x31, 1), 1);
        Check.due("no old byte behind it", desk.out(0), '1');
        Check.due("a whole program", desk.read(), NONE);
        Check.type(desk, Check.times("1", MOST - 1));
        Check.due("full again", typeOr(desk, 0x31, 1), UNSUPPORTED);
    }

    /** Forty sums, each in the one before: written, they have 397 bytes and these digits. */
    private static String sum(int lastDigits) {
        return Check.times("(+11111", 39) + "(+" + Check.times("1", lastDigits) + "-2" + Check.times(")", 40);
    }

    // "how many bytes it has"
    private static void writtenUpTo400() {
        for (int digits = 2; digits <= 3; digits++) {
            FlowDesk desk = Check.program(sum(digits));
            int want = 397 + digits;
            Check.due("write", desk.write(), want);
            Check.due("its end", desk.out(want - 8), Check.packed("))))))))"));
            Check.due("nothing behind", desk.out(want), 0);
            Check.due("it can be read", desk.read(), NONE);
            Check.due("and has all exprs", desk.told(0), 81);
        }
        Check.due("the shortest", Check.program("  7  ").write(), 1);
    }

    // "NONE: it would have more than 400 (the TEXT stays)."
    private static void writtenOver400() {
        for (int digits = 4; digits <= 6; digits++) {
            String text = sum(digits);
            State.dueRefused("write of " + (397 + digits), () -> Check.program(text), FlowDesk::write, NONE);
            State.dueRefused("write of " + (397 + digits), () -> ranAndRetyped(text), FlowDesk::write, NONE);
        }
    }

    private static FlowDesk ranAndRetyped(String text) {
        FlowDesk desk = Check.program(text);
        desk.run(2000);
        Check.retype(desk, Check.times("z", MOST));
        return desk;
    }

    private static void writtenAfterChangesOver400() {
        String body = Check.times("(+ 11111 ", 15) + "x" + Check.times(")", 15);
        FlowDesk desk = Check.program("(let f \\x." + body + "(+(f 1)(f 2)))");
        int each = body.length() + 1;
        Check.due("inline", desk.inline(34), 70);
        int once = "(let v0 \\v1.".length() + each + " (+ (let v2 1 ".length() + each + ") (v0 2)))".length();
        Check.due("write with a copy", desk.write(), once);
        Check.due("inline", desk.inline(67), 100);
        Check.due("write with two copies", desk.write(), NONE);
        Check.due("the text stays", desk.clear(), once);
        Check.due("the program stays", desk.told(0), 100);
    }

    // "BAD: .. no program was read."
    private static void writtenWithoutProgram() {
        State.dueRefused("write", () -> Check.typed("(+ 1 2)"), FlowDesk::write, BAD);
        FlowDesk desk = Check.typed("(+ 1 2");
        Check.due("a fault", desk.read(), 6);
        Check.due("still no program", desk.write(), BAD);
        Check.due("the text stays", desk.out(0), Check.packed("(+ 1 2"));
    }

    private static void writtenOverLongerText() {
        FlowDesk desk = Check.program("1");
        Check.retype(desk, Check.times("z", MOST));
        Check.due("write", desk.write(), 1);
        for (int i = 1; i <= MOST; i++) {
            Check.due("out(" + i + ") behind one byte", desk.out(i), 0);
        }
        Check.due("the byte", desk.out(0), '1');
    }

    private static void typedBehindWhatIsWritten() {
        FlowDesk desk = Check.program("(+  1  2)");
        Check.due("write", desk.write(), 7);
        Check.due("type behind it", desk.type(0x2121, 2), 9);
        Check.due("the text", Check.text(desk, 9), "(+ 1 2)!!");
        Check.due("its fault", desk.read(), 7);
        Check.due("write again", desk.write(), 7);
        Check.due("clear", desk.clear(), 7);
    }

    // "numbers as digits, - before them"
    private static void writtenNumbers() {
        int[] numbers = {0, 1, 9, 10, 11, 99, 100, 101, 999, 1000, 9999, 10000, 99999, 100000, 100001, 900000, 999999};
        for (int number : numbers) {
            Check.due("written", Check.written(Check.program("" + number)), "" + number);
            Check.due("written", Check.written(Check.program("-" + number)), "" + -number);
        }
        Check.due("without leading zeros", Check.written(Check.program("000000")), "0");
        Check.due("without leading zeros", Check.written(Check.program("-000010")), "-10");
        Check.due("behind a sign", Check.written(Check.program("(--1-0)")), "(- -1 0)");
        Check.due("called", Check.written(Check.program("(-1 -1)")), "(-1 -1)");
    }

    // "NAMES as v and the number of their VARIABLE"
    private static void writtenVariables() {
        StringBuilder want = new StringBuilder("(");
        for (int i = 0; i < 50; i++) {
            want.append("\\v").append(i).append(i == 24 ? ".v0 " : ".");
        }
        want.append("v25)");
        String read = "(\\a." + Check.times("\\x.", 24) + "a\\b." + Check.times("\\x.", 24) + "b)";
        FlowDesk desk = Check.program(read);
        Check.due("write", Check.written(desk), want.toString());
        Check.due("it can be read", desk.read(), NONE);
        Check.due("the last one", desk.expr(52, 1), 25);
        Check.due("written again", Check.written(desk), want.toString());
    }

    // "with one blank between"
    private static void writtenBlanks() {
        String[] texts = {"\\v0.v0", "(if 1 2 3)", "(let v0 1 v0)", "(fix v0 v1 v0)", "(+ 1 2)", "(- 1 2)", "(* 1 2)", "(= 1 2)", "(< 1 2)", "(1 2)",
            "((1 2) (3 4))", "(\\v0.v0 \\v1.v1)", "(if (1 2) \\v0.(v0 v0) (fix v1 v2 (+ v1 v2)))", "(let v0 (let v1 1 v1) (- v0 -1))"};
        for (String text : texts) {
            String wide = text.replace("(", " ( ").replace(" ", " \n ");
            FlowDesk desk = Check.program(wide);
            Check.due("write", desk.write(), text.length());
            Check.due("written", Check.text(desk, text.length()), text);
            Check.due("nothing behind", desk.out(text.length()), 0);
        }
    }

    // "Eight bytes of the TEXT from byte i on, the first one the lowest; 0 for each that is none."
    private static void outRoundTheStart() {
        FlowDesk desk = Check.typed("abcdefghijkl");
        for (int i = -9; i <= 0; i++) {
            long want = i < -7 ? 0 : Check.packed("abcdefgh") << (-8 * i);
            Check.due("out(" + i + ")", desk.out(i), want);
        }
    }

    private static void outRoundTheEnd() {
        String text = "abcdefghijkl";
        FlowDesk desk = Check.typed(text);
        for (int i = 0; i <= 13; i++) {
            String there = text.substring(Math.min(12, i), Math.min(12, i + 8));
            Check.due("out(" + i + ")", desk.out(i), Check.packed(there));
        }
        Check.due("out(-1) of one byte", Check.typed("a").out(-1), 'a' << 8);
        Check.due("out(0) of none", new FlowDesk().out(0), 0);
    }

    private static void outOfFullText() {
        FlowDesk desk = Check.typed(Check.times("abcdefgh", 50));
        Check.due("out(392)", desk.out(392), Check.packed("abcdefgh"));
        for (int i = 393; i <= 401; i++) {
            Check.due("out(" + i + ")", desk.out(i), Check.packed("abcdefgh".substring(Math.min(8, i - 392))));
        }
    }

    private static void outFarOff() {
        FlowDesk desk = Check.typed(Check.times("\u00ff", MOST));
        int[] far = {Integer.MIN_VALUE, Integer.MIN_VALUE + 7, -MOST, -8, MOST, 1 << 16, Integer.MAX_VALUE - 8, Integer.MAX_VALUE - 7, Integer.MAX_VALUE};
        for (int i : far) {
            Check.due("out(" + i + ")", desk.out(i), 0);
        }
        Check.due("all bits", desk.out(0), -1L);
        Check.due("the last byte", desk.out(399), 255);
    }

    // "An object is used for at most 512 calls after it has been made"
    private static void allCallsOfALife() {
        FlowDesk desk = new FlowDesk();
        for (int call = 1; call < LIFE; call += 2) {
            Check.due("type, call " + call, desk.type(0x31, 1), 1);
            Check.due("clear, call " + (call + 1), desk.clear(), 1);
        }
        desk = Check.typed("((fix f n (if n (f (- n 1)) 7)) 284)");
        for (int call = 6; call < LIFE; call += 3) {
            Check.due("read, call " + call, desk.read(), NONE);
            Check.due("run, call " + (call + 1), desk.run(2000), 0);
            Check.due("result, call " + (call + 2), desk.result(), 7);
        }
        desk = new FlowDesk();
        for (int call = 9; call <= LIFE; call += 9) {
            Check.retype(desk, "(let a 1 (\\x.x 2))");
            Check.due("read, before call " + call, desk.read(), NONE);
            Check.due("inline, before call " + call, desk.inline(2), 5);
            Check.due("drop, before call " + call, desk.drop(0), 3);
            Check.due("write, before call " + call, desk.write(), 13);
            Check.due("out, call " + call, desk.out(5), Check.packed("v0 2 v0)"));
        }
    }
}
