import java.util.ArrayList;
import java.util.HashMap;
import java.util.HashSet;
import java.util.LinkedHashSet;
import java.util.List;
import java.util.Map;
import java.util.Set;

/** The document once more, as plainly as can be: trees, sets and recursion, to be compared with the class. */
final class Model {
    static final int NAME = 0, NUMBER = 1, LAMBDA = 2, FIX = 3, IF = 4, LET = 5, PLUS = 6, CALL = 11;
    private static final String SIGNS = "+-*=<";

    static final class Fault extends RuntimeException {
        private static final long serialVersionUID = 1L;
        final int place;

        Fault(int place) {
            this.place = place;
        }
    }

    static final class Variable {
        final String name;
        int number;

        Variable(String name) {
            this.name = name;
        }
    }

    static final class Node {
        int kind;
        int number;
        Variable variable;
        Variable self;
        final List<Node> parts = new ArrayList<>();
        Node parent;
        int label;
        int function = -1;

        Node(int kind) {
            this.kind = kind;
        }

        boolean isFunction() {
            return kind == LAMBDA || kind == FIX;
        }

        /** The innermost function in whose body it stands. */
        Node inside() {
            Node up = parent;
            while (up != null && !up.isFunction()) {
                up = up.parent;
            }
            return up;
        }
    }

    Node root;
    final List<Node> nodes = new ArrayList<>();
    final List<Node> functions = new ArrayList<>();
    final List<Variable> variables = new ArrayList<>();
    private final Map<Object, Set<Node>> flow = new HashMap<>();

    // ---- reading: tokens first

    private static final class Token {
        final String text;
        final int start;

        Token(String text, int start) {
            this.text = text;
            this.start = start;
        }

        boolean isWord() {
            return !text.isEmpty() && Character.isLetter(text.charAt(0));
        }

        boolean isName() {
            return text.matches("[a-z][0-9]{0,3}");
        }

        boolean isNumber() {
            return text.matches("-?[0-9]+");
        }
    }

    private final List<Token> tokens = new ArrayList<>();
    private int next;
    private int open;
    private int exprs;
    private int functionCount;
    private int variableCount;

    static Model read(String text) {
        Model model = new Model();
        model.split(text);
        model.root = model.parse(new ArrayList<>());
        if (!model.look().text.isEmpty()) {
            throw new Fault(model.look().start);
        }
        model.number();
        return model;
    }

    private void split(String text) {
        java.util.regex.Matcher m = java.util.regex.Pattern.compile("[ \n]+|[a-z][a-z0-9]*|-?[0-9]+|(?s:.)").matcher(text);
        while (m.find()) {
            if (!m.group().matches("[ \n]+")) {
                tokens.add(new Token(m.group(), m.start()));
            }
        }
        tokens.add(new Token("", text.length()));
    }

    private Token look() {
        return tokens.get(Math.min(next, tokens.size() - 1));
    }

    private Token take() {
        Token token = look();
        next++;
        return token;
    }

    private void expect(String text) {
        Token token = take();
        if (!token.text.equals(text)) {
            throw new Fault(token.start);
        }
    }

    private Node parse(List<Variable> scope) {
        Token token = take();
        exprs++;
        if (exprs > 200) {
            throw new Fault(token.start);
        }
        if (token.isWord()) {
            Node node = new Node(NAME);
            node.variable = meaning(token, scope);
            return node;
        }
        if (token.isNumber()) {
            return number(token);
        }
        if (token.text.equals("-")) {
            throw new Fault(token.start + 1);
        }
        if (!token.text.equals("\\") && !token.text.equals("(")) {
            throw new Fault(token.start);
        }
        open++;
        if (open > 40) {
            throw new Fault(token.start);
        }
        Node node = token.text.equals("(") ? form(token, scope) : lambda(token, scope);
        open--;
        return node;
    }

    private Variable meaning(Token token, List<Variable> scope) {
        if (token.isName()) {
            for (int i = scope.size() - 1; i >= 0; i--) {
                if (scope.get(i).name.equals(token.text)) {
                    return scope.get(i);
                }
            }
        }
        throw new Fault(token.start);
    }

    private Node number(Token token) {
        String digits = token.text.replace("-", "");
        if (digits.length() > 6) {
            throw new Fault(token.start + token.text.length() - digits.length() + 6);
        }
        Node node = new Node(NUMBER);
        node.number = Integer.parseInt(token.text);
        return node;
    }

    private void countFunction(Token first) {
        functionCount++;
        if (functionCount > 50) {
            throw new Fault(first.start);
        }
    }

    private Variable binding() {
        Token token = take();
        variableCount++;
        if (!token.isName() || variableCount > 100) {
            throw new Fault(token.start);
        }
        return new Variable(token.text);
    }

    private static List<Variable> with(List<Variable> scope, Variable... more) {
        List<Variable> wider = new ArrayList<>(scope);
        wider.addAll(List.of(more));
        return wider;
    }

    private Node lambda(Token first, List<Variable> scope) {
        countFunction(first);
        Node node = new Node(LAMBDA);
        node.variable = binding();
        expect(".");
        node.parts.add(parse(with(scope, node.variable)));
        return node;
    }

    private Node form(Token first, List<Variable> scope) {
        String head = look().text;
        Node node;
        if (head.equals("if")) {
            take();
            node = new Node(IF);
            node.parts.add(parse(scope));
            node.parts.add(parse(scope));
            node.parts.add(parse(scope));
        } else if (head.equals("let")) {
            take();
            node = new Node(LET);
            node.variable = binding();
            node.parts.add(parse(scope));
            node.parts.add(parse(with(scope, node.variable)));
        } else if (head.equals("fix")) {
            take();
            countFunction(first);
            node = new Node(FIX);
            node.self = binding();
            node.variable = binding();
            node.parts.add(parse(with(scope, node.self, node.variable)));
        } else {
            boolean isSign = head.length() == 1 && SIGNS.contains(head);
            node = new Node(isSign ? PLUS + SIGNS.indexOf(head) : CALL);
            if (isSign) {
                take();
            }
            node.parts.add(parse(scope));
            node.parts.add(parse(scope));
        }
        expect(")");
        return node;
    }

    // ---- numbers of labels, functions and variables; flows

    private void number() {
        nodes.clear();
        functions.clear();
        variables.clear();
        number(root, null);
        solve();
    }

    private void number(Node node, Node parent) {
        node.parent = parent;
        node.label = nodes.size();
        nodes.add(node);
        if (node.isFunction()) {
            node.function = functions.size();
            functions.add(node);
        }
        if (node.self != null) {
            node.self.number = variables.size();
            variables.add(node.self);
        }
        if (node.kind != NAME && node.variable != null) {
            node.variable.number = variables.size();
            variables.add(node.variable);
        }
        for (Node part : node.parts) {
            number(part, node);
        }
    }

    private Set<Node> flowSet(Object of) {
        return flow.computeIfAbsent(of, key -> new HashSet<>());
    }

    private boolean into(Object to, Set<Node> what) {
        return flowSet(to).addAll(new ArrayList<>(what));
    }

    private void solve() {
        flow.clear();
        boolean grown = true;
        while (grown) {
            grown = false;
            for (Node node : nodes) {
                grown |= constrain(node);
            }
        }
    }

    private boolean constrain(Node node) {
        boolean grown = false;
        if (node.isFunction()) {
            grown = into(node, Set.of(node));
            if (node.self != null) {
                grown |= into(node.self, Set.of(node));
            }
        } else if (node.kind == NAME) {
            grown = into(node, flowSet(node.variable));
        } else if (node.kind == LET) {
            grown = into(node.variable, flowSet(node.parts.get(0))) | into(node, flowSet(node.parts.get(1)));
        } else if (node.kind == IF) {
            grown = into(node, flowSet(node.parts.get(1))) | into(node, flowSet(node.parts.get(2)));
        } else if (node.kind == CALL) {
            for (Node t : new ArrayList<>(flowSet(node.parts.get(0)))) {
                grown |= into(t.variable, flowSet(node.parts.get(1))) | into(node, flowSet(t.parts.get(0)));
            }
        }
        return grown;
    }

    long bits(Object of) {
        long bits = 0;
        for (Node t : flowSet(of)) {
            bits |= 1L << t.function;
        }
        return bits;
    }

    private Set<Node> callees(Node t) {
        Set<Node> callees = new HashSet<>();
        for (Node node : nodes) {
            if (node.kind == CALL && node.inside() == t) {
                callees.addAll(flowSet(node.parts.get(0)));
            }
        }
        return callees;
    }

    boolean reaches(int t, int u) {
        Set<Node> seen = new LinkedHashSet<>(callees(functions.get(t)));
        List<Node> work = new ArrayList<>(seen);
        while (!work.isEmpty()) {
            for (Node callee : callees(work.remove(0))) {
                if (seen.add(callee)) {
                    work.add(callee);
                }
            }
        }
        return seen.contains(functions.get(u));
    }

    int single(Node call) {
        Set<Node> callees = flowSet(call.parts.get(0));
        return callees.size() == 1 ? callees.iterator().next().function : -1;
    }

    private void collect(Node node, Set<Variable> met, Set<Variable> bound) {
        if (node.kind == NAME) {
            met.add(node.variable);
        } else if (node.variable != null) {
            bound.add(node.variable);
        }
        if (node.self != null) {
            bound.add(node.self);
        }
        for (Node part : node.parts) {
            collect(part, met, bound);
        }
    }

    int free(Node node) {
        Set<Variable> met = new HashSet<>();
        Set<Variable> bound = new HashSet<>();
        collect(node, met, bound);
        met.removeAll(bound);
        return met.size();
    }

    // ---- what is told

    boolean canInline(Node node) {
        if (node.kind != CALL || single(node) < 0) {
            return false;
        }
        Node t = functions.get(single(node));
        int operator = node.parts.get(0).kind;
        return t.kind == LAMBDA && free(t) == 0 && !reaches(t.function, t.function) && (operator == NAME || operator == LAMBDA);
    }

    boolean canDrop(Node node) {
        if (node.kind != LET) {
            return false;
        }
        Set<Variable> met = new HashSet<>();
        collect(root, met, new HashSet<>());
        int first = node.parts.get(0).kind;
        return !met.contains(node.variable) && first <= FIX;
    }

    int told(int what) {
        int count = 0;
        for (Node node : nodes) {
            boolean counts = what == 0
                || what == 1 && node.isFunction()
                || what == 3 && node.kind == CALL
                || what == 4 && node.kind == CALL && single(node) >= 0
                || what == 5 && canInline(node)
                || what == 6 && canDrop(node);
            count += counts ? 1 : 0;
        }
        return what == 2 ? variables.size() : what == 7 ? steps : count;
    }

    int expr(int label, int what) {
        Node node = nodes.get(label);
        switch (what) {
            case 0: return node.kind;
            case 1: return node.kind == NUMBER ? node.number : node.variable != null ? node.variable.number : -1;
            case 2: return node.parent == null ? -1 : node.parent.label;
            case 6: return node.function;
            case 7: return node.inside() == null ? -1 : node.inside().function;
            default: return node.parts.size() > what - 3 ? node.parts.get(what - 3).label : -1;
        }
    }

    int function(int t, int what) {
        Node node = functions.get(t);
        switch (what) {
            case 0: return node.label;
            case 1: return node.parts.get(0).label;
            case 2: return node.variable.number;
            case 3: return node.self == null ? -1 : node.self.number;
            case 4: return free(node);
            case 5: return (int) nodes.stream().filter(n -> n.kind == CALL && flowSet(n.parts.get(0)).contains(node)).count();
            default: return reaches(t, t) ? 1 : 0;
        }
    }

    // ---- runs: a value is a Long or a Closure

    private static final class Closure {
        final Node function;
        final Map<Variable, Object> values;

        Closure(Node function, Map<Variable, Object> values) {
            this.function = function;
            this.values = values;
        }
    }

    private static final class Stuck extends RuntimeException {
        private static final long serialVersionUID = 1L;
        final int label;

        Stuck(int label) {
            this.label = label;
        }
    }

    private static final class TooLong extends RuntimeException {
        private static final long serialVersionUID = 1L;
    }

    int steps;
    long result;
    final Map<Node, Long> used = new HashMap<>();
    private int limit;

    int run(int most) {
        steps = 0;
        result = 0;
        used.clear();
        limit = most;
        try {
            Object value = eval(root, new HashMap<>());
            if (value instanceof Closure) {
                result = ((Closure) value).function.function;
                return 1;
            }
            result = (Long) value;
            return 0;
        } catch (Stuck stuck) {
            result = stuck.label;
            return 2;
        } catch (TooLong tooLong) {
            return 3;
        }
    }

    private Object eval(Node node, Map<Variable, Object> values) {
        if (steps == limit) {
            throw new TooLong();
        }
        steps++;
        switch (node.kind) {
            case NAME: return values.get(node.variable);
            case NUMBER: return (long) node.number;
            case LAMBDA:
            case FIX: return new Closure(node, values);
            case IF:
                Object c = eval(node.parts.get(0), values);
                if (c instanceof Closure) {
                    throw new Stuck(node.label);
                }
                return eval(node.parts.get((Long) c != 0 ? 1 : 2), values);
            case LET:
                Map<Variable, Object> more = new HashMap<>(values);
                more.put(node.variable, eval(node.parts.get(0), values));
                return eval(node.parts.get(1), more);
            default:
                Object a = eval(node.parts.get(0), values);
                Object b = eval(node.parts.get(1), values);
                return node.kind == CALL ? call(node, a, b) : reckon(node, a, b);
        }
    }

    private Object call(Node node, Object callee, Object argument) {
        if (!(callee instanceof Closure)) {
            throw new Stuck(node.label);
        }
        Closure closure = (Closure) callee;
        used.merge(node, 1L << closure.function.function, (p, q) -> p | q);
        Map<Variable, Object> values = new HashMap<>(closure.values);
        if (closure.function.self != null) {
            values.put(closure.function.self, closure);
        }
        values.put(closure.function.variable, argument);
        return eval(closure.function.parts.get(0), values);
    }

    private static Object reckon(Node node, Object first, Object second) {
        if (first instanceof Closure || second instanceof Closure) {
            throw new Stuck(node.label);
        }
        long a = (Long) first;
        long b = (Long) second;
        switch (SIGNS.charAt(node.kind - PLUS)) {
            case '+': return a + b;
            case '-': return a - b;
            case '*': return a * b;
            case '=': return a == b ? 1L : 0L;
            default: return a < b ? 1L : 0L;
        }
    }

    // ---- changes

    private static Node copy(Node node, Map<Variable, Variable> renamed) {
        Node copy = new Node(node.kind);
        copy.number = node.number;
        if (node.self != null) {
            copy.self = new Variable("");
            renamed.put(node.self, copy.self);
        }
        if (node.variable != null && node.kind != NAME) {
            renamed.put(node.variable, new Variable(""));
        }
        if (node.variable != null) {
            copy.variable = renamed.get(node.variable);
        }
        for (Node part : node.parts) {
            copy.parts.add(copy(part, renamed));
        }
        return copy;
    }

    private void replace(Node old, Node by) {
        if (old.parent == null) {
            root = by;
        } else {
            old.parent.parts.set(old.parent.parts.indexOf(old), by);
        }
        number();
        steps = 0;
        result = 0;
        used.clear();
    }

    int inline(int label) {
        Node call = nodes.get(label);
        if (call.kind != CALL) {
            return -2;
        }
        if (!canInline(call)) {
            return -1;
        }
        Node t = functions.get(single(call));
        Map<Variable, Variable> renamed = new HashMap<>();
        Node let = new Node(LET);
        let.variable = new Variable("");
        renamed.put(t.variable, let.variable);
        Node body = copy(t.parts.get(0), renamed);
        let.parts.add(call.parts.get(1));
        let.parts.add(body);
        replace(call, let);
        if (nodes.size() > 200 || functions.size() > 50 || variables.size() > 100) {
            replace(let, call);
            return -1;
        }
        return nodes.size();
    }

    int drop(int label) {
        Node let = nodes.get(label);
        if (let.kind != LET) {
            return -2;
        }
        if (!canDrop(let)) {
            return -1;
        }
        replace(let, let.parts.get(1));
        return nodes.size();
    }

    String written() {
        return written(root);
    }

    private static String written(Node node) {
        List<String> s = new ArrayList<>();
        for (Node part : node.parts) {
            s.add(written(part));
        }
        String rest = String.join(" ", s) + ")";
        switch (node.kind) {
            case NAME: return "v" + node.variable.number;
            case NUMBER: return "" + node.number;
            case LAMBDA: return "\\v" + node.variable.number + "." + s.get(0);
            case FIX: return "(fix v" + node.self.number + " v" + node.variable.number + " " + rest;
            case IF: return "(if " + rest;
            case LET: return "(let v" + node.variable.number + " " + rest;
            case CALL: return "(" + rest;
            default: return "(" + SIGNS.charAt(node.kind - PLUS) + " " + rest;
        }
    }
}
