import java.util.ArrayList;
import java.util.List;
import java.util.function.Supplier;
import java.util.function.ToLongFunction;

/** All that an object tells without being changed: behind a refused call it must be what it was before. */
final class State {
    /** An object is good for 512 calls: this leaves enough of them for what is done before. */
    private static final int MOST_QUESTIONS = 300;

    private static final class Question {
        final String call;
        final ToLongFunction<FlowDesk> ask;

        Question(String call, ToLongFunction<FlowDesk> ask) {
            this.call = call;
            this.ask = ask;
        }
    }

    private final List<Question> questions = new ArrayList<>();

    private State(int exprs, int functions, int variables) {
        put("type(0, 0)", desk -> desk.type(0, 0));
        put("result()", FlowDesk::result);
        for (int what = 0; what < 8; what++) {
            int asked = what;
            put("told(" + what + ")", desk -> desk.told(asked));
        }
        for (int i = 0; i < 400; i += 8) {
            int place = i;
            put("out(" + i + ")", desk -> desk.out(place));
        }
        for (int label = 0; label <= exprs; label++) {
            putExpr(label);
        }
        for (int variable = 0; variable <= variables; variable++) {
            int asked = variable;
            put("flows(" + variable + ")", desk -> desk.flows(asked));
        }
        for (int t = 0; t <= functions; t++) {
            putFunction(t, functions);
        }
    }

    private void put(String call, ToLongFunction<FlowDesk> ask) {
        questions.add(new Question(call, ask));
    }

    private void putExpr(int label) {
        put("flow(" + label + ")", desk -> desk.flow(label));
        put("single(" + label + ")", desk -> desk.single(label));
        put("used(" + label + ")", desk -> desk.used(label));
        for (int what = 0; what < 8; what++) {
            int asked = what;
            put("expr(" + label + ", " + what + ")", desk -> desk.expr(label, asked));
        }
    }

    private void putFunction(int t, int functions) {
        for (int what = 0; what < 7; what++) {
            int asked = what;
            put("function(" + t + ", " + what + ")", desk -> desk.function(t, asked));
        }
        for (int u = 0; u <= functions; u++) {
            int other = u;
            put("reaches(" + t + ", " + u + ")", desk -> desk.reaches(t, other));
        }
    }

    /** Asks both the same; of very many questions only each second, third, .. one. */
    static void dueSame(String when, FlowDesk desk, FlowDesk twin) {
        State state = new State(Math.max(0, twin.told(0)), Math.max(0, twin.told(1)), Math.max(0, twin.told(2)));
        int stride = 1 + state.questions.size() / MOST_QUESTIONS;
        for (int i = 0; i < state.questions.size(); i += i < 10 ? 1 : stride) {
            Question question = state.questions.get(i);
            Check.due(question.call + " " + when, question.ask.applyAsLong(desk), question.ask.applyAsLong(twin));
        }
    }

    /** A call that is refused: what it answers, and that it leaves an object as it was. */
    static void dueRefused(String call, Supplier<FlowDesk> made, ToLongFunction<FlowDesk> asked, long want) {
        FlowDesk desk = made.get();
        Check.due(call, asked.applyAsLong(desk), want);
        dueSame("behind " + call, desk, made.get());
    }
}
