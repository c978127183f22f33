/** What all tests use: they count wrong answers, print each, and end with exit code 1 if there was one. */
final class Check {
    private static int wrong = 0;
    private static int asked = 0;

    private Check() {
    }

    static void due(String call, long got, long want) {
        asked++;
        if (got != want) {
            wrong++;
            System.out.println(call + " answered " + got + ", due is " + want);
        }
    }

    static void due(String call, String got, String want) {
        asked++;
        if (!got.equals(want)) {
            wrong++;
            System.out.println(call + " answered \"" + got + "\", due is \"" + want + "\"");
        }
    }

    static void end() {
        System.out.println(asked + " answers, " + wrong + " not as due");
        if (wrong != 0) {
            System.exit(1);
        }
    }

    static boolean allRight() {
        return wrong == 0;
    }

    /** A new object with this text typed. */
    static FlowDesk typed(String text) {
        FlowDesk desk = new FlowDesk();
        type(desk, text);
        return desk;
    }

    static void type(FlowDesk desk, String text) {
        for (int from = 0; from < text.length(); from += 8) {
            int n = Math.min(8, text.length() - from);
            desk.type(packed(text.substring(from, from + n)), n);
        }
    }

    static void retype(FlowDesk desk, String text) {
        desk.clear();
        type(desk, text);
    }

    static long packed(String upToEight) {
        long bytes = 0;
        for (int i = 0; i < upToEight.length(); i++) {
            bytes |= (upToEight.charAt(i) & 255L) << (8 * i);
        }
        return bytes;
    }

    /** A new object with this program read. */
    static FlowDesk program(String text) {
        FlowDesk desk = typed(text);
        due("read() of " + text, desk.read(), FlowDesk.NONE);
        return desk;
    }

    /** An object that had another program before this one. */
    static FlowDesk readInPlace(String old, String text) {
        FlowDesk desk = program(old);
        retype(desk, text);
        due("read() of " + text + " in place of " + old, desk.read(), FlowDesk.NONE);
        return desk;
    }

    static int fault(String text) {
        return typed(text).read();
    }

    static void dueFault(String text, int want) {
        due("read() of " + text, fault(text), want);
    }

    /** The first bytes of the text, as the object tells them. */
    static String text(FlowDesk desk, int bytes) {
        StringBuilder s = new StringBuilder();
        long eight = 0;
        for (int i = 0; i < bytes; i++) {
            eight = i % 8 == 0 ? desk.out(i) : eight >>> 8;
            s.append((char) (eight & 255));
        }
        return s.toString();
    }

    /** The program as the object writes it (it becomes its text). */
    static String written(FlowDesk desk) {
        return text(desk, desk.write());
    }

    /** How a run ends, what comes out of it, and its steps. */
    static void dueRun(String text, int how, long result, int steps) {
        FlowDesk desk = program(text);
        due("run of " + text, desk.run(2000), how);
        due("result of " + text, desk.result(), result);
        due("steps of " + text, desk.told(7), steps);
    }

    static String times(String s, int n) {
        return s.repeat(n);
    }

    /** A program of calls of numbers with this many numbers, 2 n - 1 exprs, few of them open at a time. */
    static String calls(int n) {
        if (n == 1) {
            return "1";
        }
        String left = calls(n / 2);
        String right = calls(n - n / 2);
        return "(" + left + (right.startsWith("(") || left.endsWith(")") ? "" : " ") + right + ")";
    }
}
