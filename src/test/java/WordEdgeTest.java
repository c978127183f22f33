/** The boundaries of what stands in a TEXT, for promise 4 (read): blanks, words, names, numbers, forms, bindings. */
public final class WordEdgeTest {
    private static final int NONE = FlowDesk.NONE;

    public static void main(String[] args) {
        onlyTwoBlanks();
        blanksOrNot();
        noBlanksWithin();
        lettersFromAToZ();
        digitsFrom0To9();
        wordsAsLongAsTheyCome();
        namesOfUpToThreeDigits();
        namesOfFourDigits();
        namesThatAreAlike();
        keysAreNoNames();
        keysOnlyBehindABracket();
        oneToSixDigits();
        noDigit();
        seventhDigit();
        minusRightInFront();
        minusOfANumber();
        formsWithTheirParts();
        formsWithOneLess();
        formsWithOneMore();
        namesInTheirScope();
        innermostBinding();
        fixHidesItsOwn();
        numberedAsTheyStand();
        Check.end();
    }

    // "BLANKS (32 and 10)"
    private static void onlyTwoBlanks() {
        for (int c = 0; c < 256; c++) {
            String one = String.valueOf((char) c);
            boolean isBlank = c == 32 || c == 10;
            boolean isDigit = c >= '0' && c <= '9';
            Check.dueFault(one + "(+ 1 2)", isBlank ? NONE : isDigit ? 1 : c == '(' ? 8 : c == '\\' || c == '-' ? 1 : 0);
            Check.dueFault("(+ 1 2)" + one, isBlank ? NONE : 7);
            Check.dueFault("(if 1" + one + "(+ 1 2)3)", isBlank || isDigit ? NONE : wordFault(c));
        }
    }

    /** Where (if 1?(+ 1 2)3) has its fault for a byte that is no blank and no digit. */
    private static int wordFault(int c) {
        // A bracket more is a call of (+ 1 2) with 3, then the third part is missing.
        return c == '(' ? 15 : c == '\\' || c == '-' ? 6 : 5;
    }

    // "stand between tokens or not"
    private static void blanksOrNot() {
        String[] tokens = {"(", "if", "(", "<", "-1", "2", ")", "(", "let", "x", "\\", "y", ".", "y", "(", "x", "3", ")", ")",
            "(", "fix", "f", "z", "(", "f", "z", ")", ")", ")"};
        String[] between = {" ", "\n", "  ", " \n ", "\n\n"};
        for (String blanks : between) {
            Check.dueFault(String.join(blanks, tokens), NONE);
            Check.dueFault(blanks + String.join(blanks, tokens) + blanks, NONE);
        }
        Check.dueFault("(if(<-1 2)(let x\\y.y(x 3))(fix f z(f z)))", NONE);
        Check.dueFault("(let a 1(let b 2(+ a b)))", NONE);
        Check.dueFault("(+ 1-2)", NONE);
        Check.dueFault("(if 1\\x.x\\y.y)", NONE);
        Check.dueFault("\\x.(x(x x))", NONE);
        Check.dueFault(Check.times(" ", 399) + "1", NONE);
        Check.dueFault("1" + Check.times("\n", 399), NONE);
        Check.dueFault(Check.times("\n", 400), 400);
    }

    private static void noBlanksWithin() {
        Check.dueFault("(i f 1 2 3)", 1);
        Check.dueFault("(le t x 1 2)", 1);
        Check.dueFault("(l et x 1 2)", 1);
        Check.dueFault("(fi x f x 1)", 1);
        Check.dueFault("\\x 1.1", 3);
        Check.dueFault("(let x 1 1 x1)", 11);
        Check.dueFault("1 2", 2);
        Check.dueFault("- 1", 1);
        Check.dueFault("(+ 1 -\n1)", 6);
        // Without one, a number of two digits, a name with a digit, and a word of a key and a name.
        Check.dueFault("(+ 12)", 5);
        Check.dueFault("(let x1x)", 5);
        Check.dueFault("(letx 1 1)", 1);
        Check.dueFault("(fixf x 1)", 1);
        Check.dueFault("(if1 2 3)", 1);
    }

    // "A WORD: a letter a .. z"
    private static void lettersFromAToZ() {
        for (int c = 0; c < 256; c++) {
            boolean isLetter = c >= 'a' && c <= 'z';
            boolean isBlank = c == 32 || c == 10;
            Check.dueFault("\\" + (char) c + ".1", isLetter ? NONE : isBlank ? 2 : 1);
            Check.dueFault("(let " + (char) c + "1 2 3)", isLetter ? NONE : isBlank ? 6 : 5);
        }
        Check.dueFault("\\a.\\z.(a z)", NONE);
    }

    // "and letters and digits": a byte beside them ends the word.
    private static void digitsFrom0To9() {
        Check.dueFault("\\x0.x0", NONE);
        Check.dueFault("\\x9.x9", NONE);
        Check.dueFault("\\x/.1", 2);
        Check.dueFault("\\x:.1", 2);
        Check.dueFault("\\x`.1", 2);
        Check.dueFault("\\x{.1", 2);
        Check.dueFault("\\xa.1", 1);
        Check.dueFault("\\xz.1", 1);
        Check.dueFault("1/", 1);
        Check.dueFault("1:", 1);
        Check.dueFault("/", 0);
        Check.dueFault(":", 0);
        Check.dueFault("-/", 1);
        Check.dueFault("-:", 1);
        Check.dueFault("-0", NONE);
        Check.dueFault("-9", NONE);
    }

    // "as many as come"
    private static void wordsAsLongAsTheyCome() {
        Check.dueFault("\\" + Check.times("x", 399), 1);
        Check.dueFault("\\x" + Check.times("1", 398), 1);
        Check.dueFault("\\x.x" + Check.times("x", 396), 3);
        Check.dueFault("(let" + Check.times("t", 396), 1);
        Check.dueFault("(if0", 1);
        Check.dueFault("(let9 x 1 1)", 1);
        Check.dueFault("(fixfix f x 1)", 1);
        Check.dueFault("(ifif 1 2 3)", 1);
    }

    private static final String[] BINDERS = {"\\?.1", "(let ? 1 2)", "(fix ? x 1)", "(fix f ? 1)"};

    // "a NAME is a letter and up to three digits"
    private static void namesOfUpToThreeDigits() {
        String[] names = {"x", "x0", "x9", "x00", "x12", "x99", "x000", "x123", "x999", "a", "z", "a000", "z999"};
        for (String name : names) {
            for (String binder : BINDERS) {
                Check.dueFault(binder.replace("?", name), NONE);
            }
            FlowDesk desk = Check.program("(let " + name + " 5 " + name + ")");
            Check.due(name + " means", desk.expr(2, 1), 0);
        }
    }

    private static void namesOfFourDigits() {
        String[] words = {"x0000", "x1234", "x9999", "x12345", "xx", "x1x", "x12x", "x123x"};
        for (String word : words) {
            for (String binder : BINDERS) {
                Check.dueFault(binder.replace("?", word), binder.indexOf('?'));
            }
            Check.dueFault("(let x 5 " + word + ")", 9);
            Check.dueFault("(let x 5 (" + word + " 1))", 10);
        }
    }

    /** Each of these is another name than all the others. */
    private static void namesThatAreAlike() {
        String[] names = {"x", "x0", "x00", "x000", "x1", "x01", "x10", "x001", "x010", "x100", "y", "y0", "x9", "x99", "y00",
            "x999", "y000", "x19", "x20", "a", "a9", "b0", "d0", "d", "z9", "z", "n1", "n11", "n111"};
        for (String bound : names) {
            for (String met : names) {
                Check.dueFault("(let " + bound + " 1 " + met + ")", bound.equals(met) ? NONE : "(let  1 ".length() + bound.length());
            }
        }
    }

    // "the WORDS if, let, fix are KEYS"
    private static void keysAreNoNames() {
        String[] keys = {"if", "let", "fix"};
        for (String key : keys) {
            for (String binder : BINDERS) {
                Check.dueFault(binder.replace("?", key), binder.indexOf('?'));
            }
        }
        Check.dueFault("\\i.\\l.\\f.(i(l f))", NONE);
    }

    // "of a WORD that is neither a KEY where one may come nor a NAME its first byte"
    private static void keysOnlyBehindABracket() {
        String[] keys = {"if", "let", "fix"};
        for (String key : keys) {
            Check.dueFault(key, 0);
            Check.dueFault(" " + key + " 1 2 3", 1);
            Check.dueFault("\\x." + key, 3);
            Check.dueFault("(+ " + key + " 1)", 3);
            Check.dueFault("(+ 1 " + key + ")", 5);
            Check.dueFault("(1 " + key + ")", 3);
            Check.dueFault("(if 1 2 " + key + ")", 8);
            Check.dueFault("(if " + key + " 2 3)", 4);
            Check.dueFault("(let x " + key + " 1)", 7);
            Check.dueFault("(let x 1 " + key + ")", 9);
            Check.dueFault("(fix f x " + key + ")", 9);
        }
        Check.dueFault("( if 1 2 3)", NONE);
        Check.dueFault("(\nlet x 1 2)", NONE);
        Check.dueFault("( \n fix f x 1)", NONE);
    }

    // "A NUMBER: perhaps - right in front, 1 to 6 digits."
    private static void oneToSixDigits() {
        String digits = "";
        for (int n = 1; n <= 6; n++) {
            digits += 10 - n;
            Check.due(digits, Check.program(digits).expr(0, 1), Integer.parseInt(digits));
            Check.due("-" + digits, Check.program("-" + digits).expr(0, 1), -Integer.parseInt(digits));
        }
        Check.due("six of 9", Check.program("999999").expr(0, 1), 999999);
        Check.due("- and six of 9", Check.program("-999999").expr(0, 1), -999999);
        Check.due("six of 0", Check.program("000000").expr(0, 1), 0);
        Check.due("-0", Check.program("-0").expr(0, 1), 0);
        Check.due("-000001", Check.program("-000001").expr(0, 1), -1);
    }

    private static void noDigit() {
        Check.dueFault("-", 1);
        Check.dueFault("(+ - 1)", 4);
        Check.dueFault("(+ 1 -)", 6);
        Check.dueFault("(+ 1 -", 6);
        Check.dueFault("(1 -)", 4);
        Check.dueFault("\\x.-x", 4);
        Check.dueFault("(- -)", 4);
        Check.dueFault("(-- 1 2)", 3);
    }

    // "of a seventh digit that digit"
    private static void seventhDigit() {
        Check.dueFault("1234567", 6);
        Check.dueFault("12345678", 6);
        Check.dueFault(Check.times("1", 400), 6);
        Check.dueFault("-1234567", 7);
        Check.dueFault("-" + Check.times("9", 399), 7);
        Check.dueFault("0000000", 6);
        Check.dueFault("-0000001", 7);
        Check.dueFault("(-1234567 1)", 8);
        Check.dueFault("(- 1234567 1)", 9);
        Check.dueFault("(+ 123456 1234567)", 16);
        Check.dueFault("(+ 123456 -1234567)", 17);
        Check.dueFault("(+ 123456 123456)", NONE);
        Check.dueFault("(+ 123456-123456)", NONE);
        Check.dueFault("\\x.1234567", 9);
    }

    private static void minusRightInFront() {
        Check.due("-3 of (+ 1-3)", Check.program("(+ 1-3)").expr(2, 1), -3);
        Check.due("-3 of (+-3 1)", Check.program("(+-3 1)").expr(1, 1), -3);
        Check.due("-3 of (*-3-4)", Check.program("(*-3-4)").expr(1, 1), -3);
        Check.due("-4 of (*-3-4)", Check.program("(*-3-4)").expr(2, 1), -4);
        Check.dueFault("(+ 1 - 3)", 6);
        Check.dueFault("(+ 1 --3)", 6);
    }

    // "A - right behind which a digit stands is a NUMBER's."
    private static void minusOfANumber() {
        String[] calls = {"(-0 1)", "(-9 1)", "( -3 4)", "(\n-3 4)", "(-3(1 2))", "(-000000 1)"};
        for (String call : calls) {
            Check.due("the kind of " + call, Check.program(call).expr(0, 0), 11);
        }
        String[] differences = {"(- 0 1)", "(-\n9 1)", "(--3 4)", "(-(1 2)3)", "(-\\x.x 1)", "( - 3 4)", "(- -3 -4)"};
        for (String difference : differences) {
            Check.due("the kind of " + difference, Check.program(difference).expr(0, 0), 7);
        }
        Check.due("the kind of (-x 1)", Check.program("\\x.(-x 1)").expr(1, 0), 7);
        Check.dueFault("(-/ 1)", 2);
        Check.dueFault("(-: 1)", 2);
        Check.dueFault("(-3)", 3);
        Check.dueFault("(-3 4 5)", 6);
        Check.dueFault("(-", 2);
    }

    /** A form's head and how many exprs belong to it. */
    private static final String[] HEADS = {"if ", "let x ", "fix f x ", "+ ", "- ", "* ", "= ", "< ", ""};
    private static final int[] PARTS = {3, 2, 1, 2, 2, 2, 2, 2, 2};

    private static String form(int head, int parts) {
        return "(" + HEADS[head] + Check.times("(1 2)", parts) + ")";
    }

    // "form: 'if' expr expr expr; 'let' NAME expr expr; 'fix' NAME NAME expr; one of + - * = < and expr expr; or expr expr."
    private static void formsWithTheirParts() {
        int[] kinds = {4, 5, 3, 6, 7, 8, 9, 10, 11};
        for (int head = 0; head < HEADS.length; head++) {
            FlowDesk desk = Check.program(form(head, PARTS[head]));
            Check.due("its kind", desk.expr(0, 0), kinds[head]);
            Check.due("its exprs", desk.told(0), 1 + 3 * PARTS[head]);
            for (int part = 0; part < 3; part++) {
                Check.due("its part " + part, desk.expr(0, 3 + part), part < PARTS[head] ? 1 + 3 * part : NONE);
            }
        }
    }

    private static void formsWithOneLess() {
        for (int head = 0; head < HEADS.length; head++) {
            for (int parts = 0; parts < PARTS[head]; parts++) {
                String text = form(head, parts);
                Check.dueFault(text, text.length() - 1);
                Check.dueFault(text.substring(0, text.length() - 1), text.length() - 1);
            }
        }
        Check.dueFault("(let x)", 6);
        Check.dueFault("(let)", 4);
        Check.dueFault("(fix f)", 6);
        Check.dueFault("(fix)", 4);
        Check.dueFault("(fix f (1 2))", 7);
        Check.dueFault("(let (1 2) 3)", 5);
    }

    private static void formsWithOneMore() {
        for (int head = 0; head < HEADS.length; head++) {
            String whole = form(head, PARTS[head]);
            int end = whole.length() - 1;
            String[] more = {"1", "(1 2)", "\\x.x", "x", "-1", "if", ".", "-"};
            for (String next : more) {
                Check.dueFault(whole.substring(0, end) + " " + next + ")", end + 1);
            }
            Check.dueFault(whole + ")", end + 1);
            Check.dueFault(whole + "1", end + 1);
        }
    }

    // "\x.e binds x in e; let x a b binds x in b; fix f x e binds f and x in e"
    private static void namesInTheirScope() {
        Check.dueFault("(\\x.x 1)", NONE);
        Check.dueFault("(\\x.1 x)", 6);
        Check.dueFault("(let x 1 x)", NONE);
        Check.dueFault("(let x x 1)", 7);
        Check.dueFault("(+ (let x 1 x) x)", 15);
        Check.dueFault("(let x (let x 1 x) x)", NONE);
        Check.dueFault("(let x (let y 1 x) x)", 16);
        Check.dueFault("(let x (let y 1 y) y)", 19);
        Check.dueFault("(fix f x (f x))", NONE);
        Check.dueFault("((fix f x 1) f)", 13);
        Check.dueFault("((fix f x 1) x)", 13);
        Check.dueFault("(if \\x.x x 1)", 9);
        Check.dueFault("(if (let x 1 x) 2 x)", 18);
    }

    // "A NAME means the innermost binding."
    private static void innermostBinding() {
        FlowDesk desk = Check.program("(let x 1 (+ (let x x (fix x f (x (\\x.x x)))) x))");
        int[] met = {4, 7, 10, 11, 12};
        int[] want = {0, 2, 4, 2, 0};
        for (int i = 0; i < met.length; i++) {
            Check.due("x at label " + met[i], desk.expr(met[i], 0) * 100 + desk.expr(met[i], 1), want[i]);
        }
    }

    // "(x is told last: it hides an f of the same NAME)"
    private static void fixHidesItsOwn() {
        FlowDesk desk = Check.program("((fix x x (+ x 1)) 4)");
        Check.due("what x means", desk.expr(3, 1), 1);
        Check.due("its x", desk.function(0, 2), 1);
        Check.due("its f", desk.function(0, 3), 0);
        Check.due("run", desk.run(9), 0);
        Check.due("result", desk.result(), 5);
    }

    // "they are numbered from 0 as they stand (of fix f, then x)"
    private static void numberedAsTheyStand() {
        FlowDesk desk = Check.program("(let a (let b 1 b) (fix c d \\e.(let g (\\h.h 1) (+ a (c (d (e g)))))))");
        Check.due("variables", desk.told(2), 7);
        int[] binders = {0, 1, 4, 5, 6, 8};
        int[] want = {0, 1, 3, 4, 5, 6};
        for (int i = 0; i < binders.length; i++) {
            Check.due("what label " + binders[i] + " binds", desk.expr(binders[i], 1), want[i]);
        }
        Check.due("the fix's f", desk.function(0, 3), 2);
        Check.due("functions", desk.told(1), 3);
        Check.due("the first function's label", desk.function(0, 0), 4);
        Check.due("the second's", desk.function(1, 0), 5);
        Check.due("the third's", desk.function(2, 0), 8);
    }
}
