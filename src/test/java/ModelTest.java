import java.util.ArrayList;
import java.util.List;

/** All promises: the class and the Model are asked the same about many made-up programs. */
public final class ModelTest {
    private static final int PROGRAMS = 1500, WRONG_TEXTS = 40000, CALLS_OF_AN_OBJECT = 512;

    private static long seed = 20261115;

    /** Made numbers, the same in each run. */
    private static int pick(int n) {
        seed = seed * 6364136223846793005L + 1442695040888963407L;
        return (int) ((seed >>> 33) % n);
    }

    public static void main(String[] args) {
        int inlined = 0;
        int dropped = 0;
        int ends = 0;
        for (int i = 0; i < PROGRAMS && Check.allRight(); i++) {
            Life life = new Life(program());
            life.change();
            inlined += life.inlined;
            dropped += life.dropped;
            ends |= life.ends;
        }
        int faults = 0;
        for (int i = 0; i < WRONG_TEXTS && Check.allRight(); i++) {
            String text = spoiled(i % 4 == 0 ? limits() : program());
            int want = faultOf(text);
            faults += want >= 0 ? 1 : 0;
            Check.due("read() of " + text, Check.fault(text), want);
        }
        System.out.println(inlined + " inlined, " + dropped + " dropped, " + faults + " faults");
        Check.due("there was enough to compare", inlined > 500 && dropped > 100 && faults > 9000 && ends == 15 ? 1 : 0, 1);
        Check.end();
    }

    private static int faultOf(String text) {
        try {
            Model.read(text);
            return FlowDesk.NONE;
        } catch (Model.Fault fault) {
            return fault.place;
        }
    }

    // ---- made-up texts

    private static String program() {
        while (true) {
            String text = expr(3 + pick(5), "");
            if (text.length() <= 400) {
                return text;
            }
        }
    }

    private static String blank() {
        return pick(12) == 0 ? "\n" : pick(12) == 0 ? "  " : " ";
    }

    private static String name() {
        return String.valueOf((char) ('a' + pick(5))) + (pick(6) == 0 ? String.valueOf(pick(3)) : "");
    }

    /** The names in scope stand behind one another, each with a blank. */
    private static String expr(int depth, String scope) {
        String[] names = scope.trim().split(" ");
        boolean hasNames = !scope.isEmpty();
        if (depth == 0 || pick(8) == 0) {
            return hasNames && pick(4) > 0 ? names[pick(names.length)] : String.valueOf(pick(12) - 3);
        }
        String x = name();
        String f = name();
        int to = depth - 1;
        switch (pick(12)) {
            case 0:
            case 1: return "\\" + x + "." + expr(to, scope + x + " ");
            case 2: return "(fix " + f + blank() + x + blank() + expr(to, scope + f + " " + x + " ") + ")";
            case 3: return "(if " + expr(to, scope) + blank() + expr(to, scope) + blank() + expr(to, scope) + ")";
            case 4:
            case 5:
            case 6: return "(let " + x + blank() + bound(to, scope) + blank() + expr(to, scope + x + " ") + ")";
            case 7: return "(" + "+-*=<".charAt(pick(5)) + blank() + expr(to, scope) + blank() + expr(to, scope) + ")";
            case 8: return "(\\" + x + "." + expr(to, scope + x + " ") + blank() + expr(to, scope) + ")";
            default: return "(" + (hasNames && pick(3) > 0 ? names[pick(names.length)] : expr(to, scope)) + blank() + expr(to, scope) + ")";
        }
    }

    private static String bound(int depth, String scope) {
        String x = name();
        return pick(2) == 0 ? expr(depth, scope) : "\\" + x + "." + expr(Math.max(0, depth - 1), pick(2) == 0 ? x + " " : scope + x + " ");
    }

    /** Texts with many functions, many exprs, or much that is open. */
    private static String limits() {
        StringBuilder s = new StringBuilder();
        int closing = 0;
        while (s.length() < 340 && closing < 60) {
            int what = pick(9);
            if (what < 4) {
                s.append("\\x.");
            } else if (what == 4 && closing < 30) {
                s.append("(fix f x ");
                closing++;
            } else if (what == 5 && closing < 38) {
                s.append("(1");
                closing++;
            } else if (what == 6) {
                s.append("((1 2)\\y.1)").setLength(s.length() - 1);
                closing++;
            } else if (closing > 0) {
                s.append("(+ 1").append(pick(2) == 0 ? " 1" : "(1 1)").append(")");
                s.append(pick(2) == 0 ? ")" : "");
                closing--;
            }
        }
        return s.substring(0, Math.min(s.length(), 398));
    }

    private static String spoiled(String text) {
        StringBuilder s = new StringBuilder(text);
        String some = "()\\.+-*=<>abcxyzft019 \n\tiletfixA";
        for (int n = pick(3); n > 0 && s.length() > 0; n--) {
            int place = pick(s.length());
            switch (pick(5)) {
                case 0: s.deleteCharAt(place); break;
                case 1: s.setCharAt(place, some.charAt(pick(some.length()))); break;
                case 2: s.insert(place, some.charAt(pick(some.length()))); break;
                case 3: s.insert(place, pick(2) == 0 ? "123456" : "let"); break;
                default: s.setLength(place); break;
            }
        }
        return s.substring(0, Math.min(400, s.length()));
    }

    /** One program through its changes. Its object is made anew, and led to where it was, before its calls are used up. */
    private static final class Life {
        private final String text;
        private final Model model;
        private final List<int[]> changes = new ArrayList<>();
        private FlowDesk desk;
        private int calls;
        int inlined;
        int dropped;
        int ends;

        Life(String text) {
            this.text = text;
            model = Model.read(text);
            renew();
        }

        private void renew() {
            desk = Check.typed(text);
            calls = (text.length() + 7) / 8 + 1 + changes.size();
            Check.due("read() of " + text, desk.read(), FlowDesk.NONE);
            for (int[] change : changes) {
                int done = change[0] == 0 ? desk.inline(change[1]) : desk.drop(change[1]);
                Check.due("a change again in " + text, done > 0 ? 1 : 0, 1);
            }
        }

        private FlowDesk desk() {
            calls++;
            if (calls > CALLS_OF_AN_OBJECT) {
                renew();
                calls++;
            }
            return desk;
        }

        private void due(String call, long got, long want) {
            Check.due(call + " after " + changes.size() + " changes of " + text, got, want);
        }

        void change() {
            compare();
            for (int turn = 0; turn < 12 && Check.allRight(); turn++) {
                int label = choose();
                boolean inline = model.nodes.get(label).kind == Model.CALL || pick(9) == 0;
                int want = inline ? model.inline(label) : model.drop(label);
                due(inline ? "inline" : "drop", inline ? desk().inline(label) : desk().drop(label), want);
                if (want > 0) {
                    changes.add(new int[] {inline ? 0 : 1, label});
                    inlined += inline ? 1 : 0;
                    dropped += inline ? 0 : 1;
                    compare();
                }
            }
        }

        /** Most often a label at which something can be changed. */
        private int choose() {
            int label = pick(model.nodes.size());
            for (int i = 0; i < model.nodes.size() && pick(12) > 0; i++) {
                Model.Node node = model.nodes.get(label);
                if (model.canInline(node) || model.canDrop(node)) {
                    return label;
                }
                label = (label + 1) % model.nodes.size();
            }
            return label;
        }

        private void compare() {
            compareExprs();
            compareFunctions();
            compareRuns();
            compareText();
        }

        private void compareExprs() {
            for (int what = 0; what < 7; what++) {
                due("told(" + what + ")", desk().told(what), model.told(what));
            }
            for (int label = 0; label < model.nodes.size(); label++) {
                for (int what = 0; what < 8; what++) {
                    due("expr(" + label + ", " + what + ")", desk().expr(label, what), model.expr(label, what));
                }
                Model.Node node = model.nodes.get(label);
                due("flow(" + label + ")", desk().flow(label), model.bits(node));
                due("single(" + label + ")", desk().single(label), node.kind == Model.CALL ? model.single(node) : FlowDesk.BAD);
            }
            due("one label more", desk().expr(model.nodes.size(), 0), FlowDesk.BAD);
            for (int v = 0; v < model.variables.size(); v++) {
                due("flows(" + v + ")", desk().flows(v), model.bits(model.variables.get(v)));
            }
        }

        private void compareFunctions() {
            for (int t = 0; t < model.functions.size(); t++) {
                for (int what = 0; what < 7; what++) {
                    due("function(" + t + ", " + what + ")", desk().function(t, what), model.function(t, what));
                }
                for (int u = 0; u < model.functions.size(); u++) {
                    due("reaches(" + t + ", " + u + ")", desk().reaches(t, u), model.reaches(t, u) ? 1 : 0);
                }
            }
            due("one function more", desk().function(model.functions.size(), 0), FlowDesk.BAD);
        }

        private void compareRuns() {
            int[] limits = {1 + pick(20), 1 + pick(2000), 2000};
            for (int limit : limits) {
                renew();
                int how = model.run(limit);
                ends |= 1 << how;
                due("run(" + limit + ")", desk().run(limit), how);
                due("result", desk().result(), model.result);
                due("told(7)", desk().told(7), model.steps);
                for (Model.Node node : model.nodes) {
                    due("used(" + node.label + ")", desk().used(node.label), model.used.getOrDefault(node, 0L));
                }
            }
        }

        private void compareText() {
            renew();
            String want = model.written();
            if (want.length() > 400) {
                due("write", desk().write(), FlowDesk.NONE);
                due("the text stays", desk().clear(), text.length());
                return;
            }
            due("write", desk().write(), want.length());
            for (int i = 0; i < want.length(); i += 8) {
                due("out(" + i + ")", desk().out(i), Check.packed(want.substring(i, Math.min(want.length(), i + 8))));
            }
            due("read again", desk().read(), faultOf(want));
            due("exprs again", desk().told(0), model.nodes.size());
            renew();
        }
    }
}
