import java.util.ArrayList;
import java.util.List;
import java.util.function.Supplier;
import java.util.function.ToLongFunction;

/** All that an object tells without being changed: behind a refused call it must be what it was before. */
final class State {
    /** An object is good for 512 calls: this leaves enough of them for what is done before. */
    private static final int MOST_QUESTIONS = 300;

    private static final class Question {
        final String call;
        final ToLongFunction<FlowDesk> ask;

        Question(String call, ToLongFunction<FlowDesk> ask) {
            this.call = call;
            this.ask = ask;
        }
    }

    private final List<Question> questions = new ArrayList<>();

    private State(int exprs, int functions, int variables) {
        put("type(0, 0)", desk -> desk.type(0, 0));
        put("result()", FlowDesk::result);
        for (int what = 0; what < 8; what++) {
            int asked = what;
            put("told(" + what + ")", desk -> desk.told(asked));
        }
        for (int i = 0; i < 400; i += 8) {
            int place = i;
            put("out(" + i + ")", desk -> desk.out(place));
        }
        for (int label = 0; label <= exprs; label++) {
            putExpr(label);
        }
        for (int variable = 0; variable <= variables; variable++) {
            int asked = variable;
            put("flows(" + variable + ")", desk -> desk.flows(asked));
        }
        for (int t = 0; t <= functions; t++) {
            putFunction(t, functions);
        }
    }

    private void put(String call, ToLongFunction<FlowDesk> ask) {
        questions.add(new Question(call, ask));
    }

    private void putExpr(int label) {
        put("flow(" + label + ")", desk -> desk.flow(label));
        put("single(" + label + ")", desk -> desk.single(label));
        put("used(" + label + ")", desk -> desk.used(label));
        for (int what = 0; what < 8; what++) {
            int asked = what;
            put("expr(" + label + ", " + what + ")", desk -> desk.expr(label, asked));
        }
    }

    private void putFunction(int t, int functions) {
        for (int what = 0; what < 7; what++) {
            int asked = what;
            put("function(" + t + ", " + what + ")", desk -> desk.function(t, asked));
        }
        for (int u = 0; u <= functions; u++) {
            int other = u;
            put("reaches(" + t + ", " + u + ")", desk -> desk.reaches(t, other));
        }
    }

    /** Asks both the same. Where that takes more calls than an object is good for, each of several pairs is asked a share. */
    static void dueSame(String when, Supplier<FlowDesk> made, Supplier<FlowDesk> twins) {
        FlowDesk sizes = twins.get();
        List<Question> all = new State(Math.max(0, sizes.told(0)), Math.max(0, sizes.told(1)), Math.max(0, sizes.told(2))).questions;
        for (int from = 0; from < all.size(); from += MOST_QUESTIONS) {
            FlowDesk desk = made.get();
            FlowDesk twin = twins.get();
            for (Question question : all.subList(from, Math.min(all.size(), from + MOST_QUESTIONS))) {
                Check.due(question.call + " " + when, question.ask.applyAsLong(desk), question.ask.applyAsLong(twin));
            }
        }
    }

    /** A change: how many exprs there are then, what is written, and that all is as if that had been read. */
    static void dueBecomes(String call, Supplier<FlowDesk> made, ToLongFunction<FlowDesk> change, String want) {
        dueSame("behind " + call, () -> {
            FlowDesk desk = made.get();
            Check.due(call, change.applyAsLong(desk), desk.told(0));
            Check.due(call, Check.written(desk), want);
            return desk;
        }, () -> Check.program(want));
    }

    /** A call that is refused: what it answers, and that it leaves an object as it was. */
    static void dueRefused(String call, Supplier<FlowDesk> made, ToLongFunction<FlowDesk> asked, long want) {
        dueSame("behind " + call, () -> {
            FlowDesk desk = made.get();
            Check.due(call, asked.applyAsLong(desk), want);
            return desk;
        }, made);
    }
}
