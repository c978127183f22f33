/** Small programs of functions: read, followed, run, changed and written again. README.md says how to use it. */
public final class FlowDesk {
    public static final int NONE = -1, BAD = -2;

    private static final int MAX_TEXT = 400, MAX_OPEN = 40, MAX_STEPS = 2000;
    private static final int MAX_EXPRS = 200, MAX_FUNCTIONS = 50, MAX_VARIABLES = 100;
    private static final int MAX_PARTS = 3, MAX_DIGITS = 6, HIGHEST_UNIT = 100000, MAX_NAME = 4;

    private static final int NAME = 0, NUMBER = 1, LAMBDA = 2, FIX = 3, IF = 4, LET = 5;
    private static final int PLUS = 6, MINUS = 7, TIMES = 8, EQUAL = 9, LESS = 10, CALL = 11;
    private static final int[] PARTS_OF_KIND = {0, 0, 1, 1, 3, 2, 2, 2, 2, 2, 2, 2};
    private static final int[] OPERATION_SIGNS = {'+', '-', '*', '=', '<'};

    private static final int ALL_CALLS = 0, SINGLE_CALLS = 1, INLINABLE_CALLS = 2, DROPPABLE_LETS = 3;
    private static final int CAME_NUMBER = 0, CAME_CLOSURE = 1, CAME_STUCK = 2, CAME_TOO_LONG = 3;

    private final byte[] text = new byte[MAX_TEXT];
    private int length;
    private Program program = new Program();
    // A program is built here first, so that the one that stands stays whole if the new one comes to nothing.
    private Program spare = new Program();
    private final Reader reader = new Reader();
    private final Flows flows = new Flows();
    private final Machine machine = new Machine();
    private final Writer writer = new Writer();

    public FlowDesk() {
    }

    public int type(long bytes, int n) throws IllegalArgumentException, UnsupportedOperationException {
        if (n < 0 || n > 8) {
            throw new IllegalArgumentException("n is not 0 .. 8");
        }
        if (length + n > MAX_TEXT) {
            throw new UnsupportedOperationException("the text would be too long");
        }
        for (int i = 0; i < n; i++) {
            text[length + i] = (byte) (bytes >>> (8 * i));
        }
        length += n;
        return length;
    }

    public int clear() {
        int had = length;
        length = 0;
        return had;
    }

    public int read() {
        int fault = reader.load(text, length, spare);
        if (fault == NONE) {
            takeSpare();
        }
        return fault;
    }

    public int told(int what) {
        if (program.exprs == 0) {
            return BAD;
        }
        switch (what) {
            case 0: return program.exprs;
            case 1: return program.functions;
            case 2: return program.variables;
            case 3: return countExprs(ALL_CALLS);
            case 4: return countExprs(SINGLE_CALLS);
            case 5: return countExprs(INLINABLE_CALLS);
            case 6: return countExprs(DROPPABLE_LETS);
            case 7: return machine.steps;
            default: return BAD;
        }
    }

    public int expr(int label, int what) {
        if (!isLabel(label)) {
            return BAD;
        }
        switch (what) {
            case 0: return program.kind[label];
            case 1: return program.value[label];
            case 2: return program.parent[label];
            case 3: return program.part(label, 0);
            case 4: return program.part(label, 1);
            case 5: return program.part(label, 2);
            case 6: return program.function[label];
            case 7: return program.inside[label];
            default: return BAD;
        }
    }

    public long flow(int label) {
        return isLabel(label) ? flows.ofExpr[label] : 0;
    }

    public long flows(int variable) {
        return variable >= 0 && variable < program.variables ? flows.ofVariable[variable] : 0;
    }

    public int function(int t, int what) {
        if (!isFunction(t)) {
            return BAD;
        }
        int label = program.functionLabel[t];
        switch (what) {
            case 0: return label;
            case 1: return program.part(label, 0);
            case 2: return at(program.value, label);
            case 3: return at(program.self, label);
            case 4: return program.free[t];
            case 5: return countCallsInto(t);
            case 6: return flows.reachesBit(t, t);
            default: return BAD;
        }
    }

    public int reaches(int t, int u) {
        return isFunction(t) && isFunction(u) ? flows.reachesBit(t, u) : BAD;
    }

    public int single(int label) {
        return isOfKind(label, CALL) ? onlyFunction(label) : BAD;
    }

    public int run(int steps) {
        if (program.exprs == 0 || steps < 1 || steps > MAX_STEPS) {
            return BAD;
        }
        machine.start(program, steps);
        return machine.outcome;
    }

    public long result() {
        return machine.result;
    }

    public long used(int label) {
        return isOfKind(label, CALL) ? machine.called[label] : 0;
    }

    public int inline(int label) {
        if (!isOfKind(label, CALL)) {
            return BAD;
        }
        if (!isInlinable(label)) {
            return NONE;
        }
        int functionLabel = at(program.functionLabel, onlyFunction(label));
        int body = program.part(functionLabel, 0);
        int argument = program.part(label, 1);
        if (!hasRoom(label + 1, argument, body)) {
            return NONE;
        }
        // What is copied gets variables above all that stand, so that no copy is taken for its original.
        spare.exprs = 0;
        spare.addCopies(program, 0, label, 0);
        spare.add(LET, at(program.value, functionLabel) + MAX_VARIABLES, NONE);
        spare.addCopies(program, argument, program.endOf(argument), 0);
        spare.addCopies(program, body, program.endOf(body), MAX_VARIABLES);
        spare.addCopies(program, program.endOf(label), program.exprs, 0);
        takeSpare();
        return program.exprs;
    }

    public int drop(int label) {
        if (!isOfKind(label, LET)) {
            return BAD;
        }
        if (!isDroppable(label)) {
            return NONE;
        }
        spare.exprs = 0;
        spare.addCopies(program, 0, label, 0);
        spare.addCopies(program, program.part(label, 1), program.endOf(label), 0);
        spare.addCopies(program, program.endOf(label), program.exprs, 0);
        takeSpare();
        return program.exprs;
    }

    public int write() {
        if (program.exprs == 0) {
            return BAD;
        }
        writer.put(program);
        if (writer.length > MAX_TEXT) {
            return NONE;
        }
        System.arraycopy(writer.bytes, 0, text, 0, writer.length);
        length = writer.length;
        return length;
    }

    public long out(int i) {
        long bytes = 0;
        for (int k = 0; k < 8; k++) {
            long place = (long) i + k;
            if (place >= 0 && place < length) {
                bytes |= (text[(int) place] & 255L) << (8 * k);
            }
        }
        return bytes;
    }

    private static int at(int[] row, int i) {
        return i >= 0 && i < row.length ? row[i] : NONE;
    }

    private static long bitsAt(long[] row, int i) {
        return i >= 0 && i < row.length ? row[i] : 0;
    }

    private void takeSpare() {
        spare.settle();
        Program old = program;
        program = spare;
        spare = old;
        flows.solve(program);
        machine.forget();
    }

    private boolean isLabel(int label) {
        return label >= 0 && label < program.exprs;
    }

    private boolean isOfKind(int label, int kind) {
        return isLabel(label) && program.kind[label] == kind;
    }

    private boolean isFunction(int t) {
        return t >= 0 && t < program.functions;
    }

    private long operatorFlow(int call) {
        return bitsAt(flows.ofExpr, program.part(call, 0));
    }

    private int onlyFunction(int call) {
        long bits = operatorFlow(call);
        for (int t = 0; t < program.functions; t++) {
            if (bits == 1L << t) {
                return t;
            }
        }
        return NONE;
    }

    private boolean isInlinable(int call) {
        int t = onlyFunction(call);
        if (t == NONE || flows.reachesBit(t, t) == 1) {
            return false;
        }
        int functionLabel = at(program.functionLabel, t);
        int operatorKind = at(program.kind, program.part(call, 0));
        return (operatorKind == NAME || operatorKind == LAMBDA)
            && at(program.kind, functionLabel) == LAMBDA
            && at(program.free, t) == 0;
    }

    private boolean isDroppable(int let) {
        int first = at(program.kind, program.part(let, 0));
        return (first == NAME || first == NUMBER || first == LAMBDA || first == FIX)
            && at(program.met, at(program.value, let)) == 0;
    }

    /** Whether the program keeps its limits if the exprs from .. to - 1 go and a let with a copy of the body comes. */
    private boolean hasRoom(int from, int to, int body) {
        int end = program.endOf(body);
        int exprs = program.exprs - (to - from) + (end - body);
        int functions = program.functions - program.functionsIn(from, to) + program.functionsIn(body, end);
        int variables = program.variables - program.variablesIn(from, to) + program.variablesIn(body, end) + 1;
        return exprs <= MAX_EXPRS && functions <= MAX_FUNCTIONS && variables <= MAX_VARIABLES;
    }

    private int countExprs(int sort) {
        int count = 0;
        for (int label = 0; label < program.exprs; label++) {
            count += isOfSort(label, sort) ? 1 : 0;
        }
        return count;
    }

    private boolean isOfSort(int label, int sort) {
        switch (sort) {
            case ALL_CALLS: return isOfKind(label, CALL);
            case SINGLE_CALLS: return isOfKind(label, CALL) && onlyFunction(label) != NONE;
            case INLINABLE_CALLS: return isOfKind(label, CALL) && isInlinable(label);
            default: return isOfKind(label, LET) && isDroppable(label);
        }
    }

    private int countCallsInto(int t) {
        int count = 0;
        for (int label = 0; label < program.exprs; label++) {
            count += isOfKind(label, CALL) && (operatorFlow(label) >>> t & 1) == 1 ? 1 : 0;
        }
        return count;
    }

    /**
     * The exprs of a program in the order of their labels. An expr with all that is in it is one stretch of labels,
     * so changes copy stretches, and everything but kind, value and self is found anew from these by settle.
     */
    private static final class Program {
        int exprs;
        int functions;
        int variables;
        final int[] kind = new int[MAX_EXPRS];
        /** The variable that is meant or bound, the number, NONE of others. */
        final int[] value = new int[MAX_EXPRS];
        /** The f of a fix, NONE of others. */
        final int[] self = new int[MAX_EXPRS];
        final int[] parent = new int[MAX_EXPRS];
        final int[] function = new int[MAX_EXPRS];
        final int[] inside = new int[MAX_EXPRS];
        final int[] functionLabel = new int[MAX_FUNCTIONS];
        /** The label of the expr that binds a variable. */
        final int[] binder = new int[MAX_VARIABLES];
        /** How many names mean a variable. */
        final int[] met = new int[MAX_VARIABLES];
        /** How many variables from outside are met in a function. */
        final int[] free = new int[MAX_FUNCTIONS];
        private final int[] metIn = new int[MAX_VARIABLES];
        private final int[][] parts = new int[MAX_PARTS][MAX_EXPRS];
        private final int[] filled = new int[MAX_EXPRS];
        private final int[] end = new int[MAX_EXPRS];
        // Twice as many: while a change is built, copies count their variables from MAX_VARIABLES on.
        private final int[] renamed = new int[2 * MAX_VARIABLES];

        int add(int newKind, int newValue, int newSelf) {
            if (exprs >= MAX_EXPRS) {
                return NONE;
            }
            kind[exprs] = newKind;
            value[exprs] = newValue;
            self[exprs] = newSelf;
            exprs++;
            return exprs - 1;
        }

        /** Adds the exprs from .. to - 1 of another program, their variables counted higher by shift. */
        void addCopies(Program other, int from, int to, int shift) {
            for (int label = Math.max(from, 0); label < to && label < other.exprs; label++) {
                int hasVariable = other.kind[label] == NAME || other.variablesOf(label) > 0 ? 1 : 0;
                int hasSelf = other.kind[label] == FIX ? 1 : 0;
                add(other.kind[label], other.value[label] + hasVariable * shift, other.self[label] + hasSelf * shift);
            }
        }

        void settle() {
            functions = 0;
            variables = 0;
            int open = NONE;
            for (int label = 0; label < exprs; label++) {
                numberVariables(label);
                join(label, open);
                function[label] = NONE;
                if (kind[label] == LAMBDA || kind[label] == FIX) {
                    numberFunction(label);
                }
                open = openBehind(label);
            }
            for (int t = 0; t < functions; t++) {
                free[t] = countFree(t);
            }
        }

        private void numberVariables(int label) {
            switch (kind[label]) {
                case NAME:
                    value[label] = at(renamed, value[label]);
                    countMeeting(value[label]);
                    break;
                case FIX:
                    self[label] = newVariable(self[label], label);
                    value[label] = newVariable(value[label], label);
                    break;
                case LAMBDA:
                case LET:
                    value[label] = newVariable(value[label], label);
                    break;
                default:
                    break;
            }
        }

        private int newVariable(int old, int label) {
            if (variables >= MAX_VARIABLES || old < 0 || old >= renamed.length) {
                return NONE;
            }
            renamed[old] = variables;
            binder[variables] = label;
            met[variables] = 0;
            metIn[variables] = NONE;
            variables++;
            return variables - 1;
        }

        private void countMeeting(int variable) {
            if (variable >= 0 && variable < MAX_VARIABLES) {
                met[variable]++;
            }
        }

        private int countFree(int t) {
            int from = at(functionLabel, t);
            int count = 0;
            for (int label = Math.max(from, 0); label < endOf(from) && label < exprs; label++) {
                int variable = kind[label] == NAME ? value[label] : NONE;
                boolean isFree = variable >= 0 && variable < variables && binder[variable] < from;
                if (isFree && metIn[variable] != t) {
                    metIn[variable] = t;
                    count++;
                }
            }
            return count;
        }

        private void numberFunction(int label) {
            if (functions < MAX_FUNCTIONS) {
                function[label] = functions;
                functionLabel[functions] = label;
                functions++;
            }
        }

        private void join(int label, int open) {
            parent[label] = open;
            inside[label] = NONE;
            filled[label] = 0;
            for (int i = 0; i < MAX_PARTS; i++) {
                parts[i][label] = NONE;
            }
            if (open == NONE) {
                return;
            }
            inside[label] = function[open] == NONE ? inside[open] : function[open];
            if (filled[open] < MAX_PARTS) {
                parts[filled[open]][open] = label;
                filled[open]++;
            }
        }

        /** Ends each expr whose last part has come; answers the one to which the next label belongs. */
        private int openBehind(int label) {
            int open = label;
            for (int i = 0; i <= label && open != NONE; i++) {
                if (filled[open] < at(PARTS_OF_KIND, kind[open])) {
                    return open;
                }
                end[open] = label + 1;
                open = parent[open];
            }
            return open;
        }

        int part(int label, int i) {
            boolean isThere = i >= 0 && i < MAX_PARTS && label >= 0 && label < MAX_EXPRS;
            return isThere ? parts[i][label] : NONE;
        }

        /** The label behind all that is in an expr. */
        int endOf(int label) {
            return at(end, label);
        }

        int functionsIn(int from, int to) {
            int count = 0;
            for (int label = Math.max(from, 0); label < to && label < exprs; label++) {
                count += function[label] == NONE ? 0 : 1;
            }
            return count;
        }

        int variablesIn(int from, int to) {
            int count = 0;
            for (int label = Math.max(from, 0); label < to && label < exprs; label++) {
                count += variablesOf(label);
            }
            return count;
        }

        private int variablesOf(int label) {
            switch (at(kind, label)) {
                case FIX: return 2;
                case LAMBDA: return 1;
                case LET: return 1;
                default: return 0;
            }
        }
    }

    /** Reads a text into a program. It keeps its own row of what is open, so a deep text needs no deep calls. */
    private static final class Reader {
        private byte[] bytes;
        private int size;
        private int place;
        private int fault;
        private Program target;
        private int functions;
        private int variables;
        private final int[] boundName = new int[MAX_VARIABLES];
        private final int[] boundVariable = new int[MAX_VARIABLES];
        private int bound;
        private final int[] openLabel = new int[MAX_OPEN];
        private final int[] openMissing = new int[MAX_OPEN];
        private final int[] openBound = new int[MAX_OPEN];
        private final int[] openName = new int[MAX_OPEN];
        private int opened;

        /** Answers the place of the fault, or NONE; into is then to be settled. */
        int load(byte[] from, int n, Program into) {
            bytes = from;
            size = Math.min(n, from.length);
            place = 0;
            fault = NONE;
            target = into;
            target.exprs = 0;
            functions = 0;
            variables = 0;
            bound = 0;
            opened = 0;
            boolean more = true;
            for (int turn = 0; turn <= MAX_EXPRS && more; turn++) {
                if (takeExpr()) {
                    endExpr();
                }
                more = opened > 0 && fault == NONE;
            }
            if (look() != NONE) {
                fail(place);
            }
            return fault;
        }

        private void fail(int where) {
            if (fault == NONE) {
                fault = where;
            }
        }

        private int byteAt(int i) {
            return i >= 0 && i < size && i < bytes.length ? bytes[i] & 255 : NONE;
        }

        /** Goes behind blanks: the byte that stands there, NONE at the end. */
        private int look() {
            while (place < size && (byteAt(place) == ' ' || byteAt(place) == '\n')) {
                place++;
            }
            return byteAt(place);
        }

        private static boolean isLetter(int c) {
            return c >= 'a' && c <= 'z';
        }

        private static boolean isDigit(int c) {
            return c >= '0' && c <= '9';
        }

        /** Takes a name or a number (true: it is whole), or another expr up to its first part. */
        private boolean takeExpr() {
            int c = look();
            if (target.exprs >= MAX_EXPRS) {
                fail(place);
            } else if (isLetter(c)) {
                return takeMeaning();
            } else if (isDigit(c) || c == '-') {
                return takeNumber();
            } else if (c == '\\') {
                takeLambda();
            } else if (c == '(') {
                takeForm();
            } else {
                fail(place);
            }
            return false;
        }

        private boolean takeMeaning() {
            int start = place;
            int variable = meaningOf(takeName());
            if (variable == NONE) {
                fail(start);
                return false;
            }
            target.add(NAME, variable, NONE);
            return true;
        }

        private int meaningOf(int name) {
            for (int i = bound - 1; i >= 0; i--) {
                if (boundName[i] == name) {
                    return boundVariable[i];
                }
            }
            return NONE;
        }

        private boolean takeNumber() {
            boolean negative = byteAt(place) == '-';
            place += negative ? 1 : 0;
            int start = place;
            int number = 0;
            while (place - start < MAX_DIGITS && isDigit(byteAt(place))) {
                number = number * 10 + byteAt(place) - '0';
                place++;
            }
            if (place == start || isDigit(byteAt(place))) {
                fail(place);
                return false;
            }
            target.add(NUMBER, negative ? -number : number, NONE);
            return true;
        }

        private void takeLambda() {
            if (opened >= MAX_OPEN || functions >= MAX_FUNCTIONS) {
                fail(place);
                return;
            }
            place++;
            functions++;
            open(LAMBDA);
            int name = takeBinding();
            setVariable(variables - 1, NONE);
            expect('.');
            bind(name, variables - 1);
        }

        private void takeForm() {
            int start = place;
            if (opened >= MAX_OPEN) {
                fail(start);
                return;
            }
            place++;
            int kind = takeFormKind();
            if (kind == FIX && functions >= MAX_FUNCTIONS) {
                // Only here is it known to be a function, but it began with its bracket.
                fail(start);
                return;
            }
            open(kind);
            if (kind == FIX) {
                functions++;
                int f = takeBinding();
                int x = takeBinding();
                setVariable(variables - 1, variables - 2);
                bind(f, variables - 2);
                bind(x, variables - 1);
            } else if (kind == LET) {
                nameLet(takeBinding());
                setVariable(variables - 1, NONE);
            }
        }

        private void nameLet(int name) {
            if (opened > 0) {
                openName[opened - 1] = name;
            }
        }

        /** A call has no word or sign of its own: for it nothing is taken. */
        private int takeFormKind() {
            int c = look();
            for (int i = 0; i < OPERATION_SIGNS.length; i++) {
                boolean ofNumber = c == '-' && isDigit(byteAt(place + 1));
                if (c == OPERATION_SIGNS[i] && !ofNumber) {
                    place++;
                    return PLUS + i;
                }
            }
            int end = wordEnd();
            int kind = isWord(end, "if") ? IF : isWord(end, "let") ? LET : isWord(end, "fix") ? FIX : CALL;
            place = kind == CALL ? place : end;
            return kind;
        }

        private boolean isWord(int end, String word) {
            boolean same = end - place == word.length();
            for (int i = 0; i < word.length() && same; i++) {
                same = byteAt(place + i) == word.charAt(i);
            }
            return same;
        }

        private int wordEnd() {
            int end = place;
            while (end < size && (isLetter(byteAt(end)) || end > place && isDigit(byteAt(end)))) {
                end++;
            }
            return end;
        }

        /** A number that only this name has, NONE with a fault if none stands here. */
        private int takeName() {
            look();
            int end = wordEnd();
            if (end == place || end - place > MAX_NAME) {
                fail(place);
                return NONE;
            }
            int name = byteAt(place);
            for (int i = place + 1; i < end; i++) {
                if (!isDigit(byteAt(i))) {
                    fail(place);
                    return NONE;
                }
                // The letter leads and is never 0, so x, x0 and x00 differ.
                name = name * 10 + byteAt(i) - '0';
            }
            place = end;
            return name;
        }

        private int takeBinding() {
            look();
            if (variables >= MAX_VARIABLES) {
                fail(place);
                return NONE;
            }
            variables++;
            return takeName();
        }

        private void expect(int c) {
            if (look() == c) {
                place++;
            } else {
                fail(place);
            }
        }

        private void open(int kind) {
            int label = target.add(kind, NONE, NONE);
            if (label == NONE || opened >= MAX_OPEN) {
                return;
            }
            openLabel[opened] = label;
            openMissing[opened] = at(PARTS_OF_KIND, kind);
            openBound[opened] = bound;
            opened++;
        }

        /** Sets the variables of the expr that was opened last. */
        private void setVariable(int variable, int selfVariable) {
            if (target.exprs > 0) {
                target.value[target.exprs - 1] = variable;
                target.self[target.exprs - 1] = selfVariable;
            }
        }

        private void bind(int name, int variable) {
            if (bound < MAX_VARIABLES) {
                boundName[bound] = name;
                boundVariable[bound] = variable;
                bound++;
            }
        }

        /** Behind an expr: what it was the last part of ends too. */
        private void endExpr() {
            for (int top = opened - 1; top >= 0 && fault == NONE; top--) {
                int label = openLabel[top];
                openMissing[top]--;
                if (openMissing[top] > 0) {
                    bindLet(top, label);
                    return;
                }
                if (at(target.kind, label) != LAMBDA) {
                    expect(')');
                }
                bound = openBound[top];
                opened = top;
            }
        }

        private void bindLet(int top, int label) {
            if (at(target.kind, label) == LET) {
                bind(at(openName, top), at(target.value, label));
            }
        }
    }

    /** The flows of a program: the least sets that keep its constraints, and who reaches whom by them. */
    private static final class Flows {
        // Every round but the last adds a function to the set of an expr or of a variable.
        private static final int MAX_ROUNDS = (MAX_EXPRS + MAX_VARIABLES) * MAX_FUNCTIONS + 1;

        final long[] ofExpr = new long[MAX_EXPRS];
        final long[] ofVariable = new long[MAX_VARIABLES];
        private final long[] reached = new long[MAX_FUNCTIONS];
        private boolean grown;

        void solve(Program program) {
            for (int label = 0; label < MAX_EXPRS; label++) {
                ofExpr[label] = 0;
            }
            for (int variable = 0; variable < MAX_VARIABLES; variable++) {
                ofVariable[variable] = 0;
            }
            grown = true;
            for (int round = 0; round < MAX_ROUNDS && grown; round++) {
                grown = false;
                // What is bound flows to higher labels, what a part answers to lower ones: both ways, for few rounds.
                for (int label = 0; label < program.exprs; label++) {
                    pour(program, label);
                }
                for (int label = program.exprs - 1; label >= 0; label--) {
                    pour(program, label);
                }
            }
            findReached(program);
        }

        int reachesBit(int t, int u) {
            return u >= 0 && u < MAX_FUNCTIONS ? (int) (bitsAt(reached, t) >>> u & 1) : 0;
        }

        private void pour(Program program, int label) {
            int value = at(program.value, label);
            switch (at(program.kind, label)) {
                case NAME:
                    intoExpr(label, bitsAt(ofVariable, value));
                    break;
                case LAMBDA:
                    intoExpr(label, 1L << at(program.function, label));
                    break;
                case FIX:
                    intoExpr(label, 1L << at(program.function, label));
                    intoVariable(at(program.self, label), 1L << at(program.function, label));
                    break;
                case IF:
                    intoExpr(label, ofPart(program, label, 1) | ofPart(program, label, 2));
                    break;
                case LET:
                    intoVariable(value, ofPart(program, label, 0));
                    intoExpr(label, ofPart(program, label, 1));
                    break;
                case CALL:
                    pourCall(program, label);
                    break;
                default:
                    break;
            }
        }

        private void pourCall(Program program, int call) {
            long callees = ofPart(program, call, 0);
            for (int t = 0; t < program.functions; t++) {
                if ((callees >>> t & 1) == 1) {
                    int label = at(program.functionLabel, t);
                    intoVariable(at(program.value, label), ofPart(program, call, 1));
                    intoExpr(call, ofPart(program, label, 0));
                }
            }
        }

        private long ofPart(Program program, int label, int i) {
            return bitsAt(ofExpr, program.part(label, i));
        }

        private void intoExpr(int label, long bits) {
            if (label >= 0 && label < MAX_EXPRS && (bits & ~ofExpr[label]) != 0) {
                ofExpr[label] |= bits;
                grown = true;
            }
        }

        private void intoVariable(int variable, long bits) {
            if (variable >= 0 && variable < MAX_VARIABLES && (bits & ~ofVariable[variable]) != 0) {
                ofVariable[variable] |= bits;
                grown = true;
            }
        }

        private void findReached(Program program) {
            for (int t = 0; t < MAX_FUNCTIONS; t++) {
                reached[t] = 0;
            }
            for (int label = 0; label < program.exprs; label++) {
                int caller = at(program.inside, label);
                if (at(program.kind, label) == CALL && caller >= 0 && caller < MAX_FUNCTIONS) {
                    reached[caller] |= ofPart(program, label, 0);
                }
            }
            for (int middle = 0; middle < program.functions; middle++) {
                for (int t = 0; t < program.functions; t++) {
                    if (reachesBit(t, middle) == 1) {
                        reached[t] |= bitsAt(reached, middle);
                    }
                }
            }
        }
    }

    /** The variables' values in a run; a binding knows the one round it. A value: a function, or NONE and a number. */
    private static final class Bindings {
        // A let is begun and its first expr is begun before it binds, a call and two exprs before it does.
        private static final int MAX_BINDINGS = MAX_STEPS / 2;

        private final int[] variable = new int[MAX_BINDINGS];
        private final int[] function = new int[MAX_BINDINGS];
        /** The number; of a closure the bindings that its function sees. */
        private final long[] number = new long[MAX_BINDINGS];
        private final int[] round = new int[MAX_BINDINGS];
        private int count;

        void empty() {
            count = 0;
        }

        int bind(int newVariable, int itsFunction, long itsNumber, int roundIt) {
            if (count >= MAX_BINDINGS) {
                return NONE;
            }
            variable[count] = newVariable;
            function[count] = itsFunction;
            number[count] = itsNumber;
            round[count] = roundIt;
            count++;
            return count - 1;
        }

        int find(int sought, int from) {
            int place = from;
            for (int i = 0; i < MAX_BINDINGS && place >= 0 && place < count; i++) {
                if (variable[place] == sought) {
                    return place;
                }
                place = round[place];
            }
            return NONE;
        }

        int functionAt(int place) {
            return at(function, place);
        }

        long numberAt(int place) {
            return bitsAt(number, place);
        }

        int roundOf(int place) {
            return at(round, place);
        }
    }

    /** Runs a program. Exprs that wait for a part of theirs stand in rows, so a deep run needs no deep calls. */
    private static final class Machine {
        // A step begins an expr, and an expr is handed at most two values before it is done.
        private static final int MAX_TURNS = 4 * MAX_STEPS;
        private static final int GOING = -1;

        int steps;
        int outcome;
        long result;
        final long[] called = new long[MAX_EXPRS];
        private Program program;
        private int limit;
        private final Bindings bindings = new Bindings();
        private final int[] waiting = new int[MAX_STEPS];
        private final int[] waitingScope = new int[MAX_STEPS];
        private final boolean[] holds = new boolean[MAX_STEPS];
        private final int[] heldFunction = new int[MAX_STEPS];
        private final long[] heldNumber = new long[MAX_STEPS];
        private int waits;
        /** The expr to be begun; NONE: the value below has come. */
        private int next;
        private int scope;
        private int function;
        private long number;

        void forget() {
            steps = 0;
            result = 0;
            for (int label = 0; label < MAX_EXPRS; label++) {
                called[label] = 0;
            }
        }

        void start(Program toRun, int most) {
            forget();
            program = toRun;
            limit = Math.min(most, MAX_STEPS);
            outcome = GOING;
            bindings.empty();
            waits = 0;
            next = 0;
            scope = NONE;
            for (int turn = 0; turn < MAX_TURNS && outcome == GOING; turn++) {
                if (next != NONE) {
                    begin(next);
                } else if (waits > 0) {
                    hand(waits - 1);
                } else {
                    end(function == NONE ? CAME_NUMBER : CAME_CLOSURE, function == NONE ? number : function);
                }
            }
        }

        private void end(int how, long what) {
            outcome = how;
            result = what;
        }

        private void begin(int label) {
            if (steps >= limit) {
                end(CAME_TOO_LONG, 0);
                return;
            }
            steps++;
            switch (at(program.kind, label)) {
                case NAME:
                    recall(at(program.value, label));
                    break;
                case NUMBER:
                    come(NONE, at(program.value, label));
                    break;
                case LAMBDA:
                case FIX:
                    come(at(program.function, label), scope);
                    break;
                default:
                    await(label);
                    break;
            }
        }

        private void come(int itsFunction, long itsNumber) {
            function = itsFunction;
            number = itsNumber;
            next = NONE;
        }

        /** The f of a fix is not bound: it is the closure that stands round the binding of its x. */
        private void recall(int variable) {
            int binder = at(program.binder, variable);
            if (at(program.self, binder) == variable) {
                int place = bindings.find(at(program.value, binder), scope);
                come(at(program.function, binder), bindings.roundOf(place));
            } else {
                int place = bindings.find(variable, scope);
                come(bindings.functionAt(place), bindings.numberAt(place));
            }
        }

        private void await(int label) {
            if (waits < MAX_STEPS) {
                waiting[waits] = label;
                waitingScope[waits] = scope;
                holds[waits] = false;
                waits++;
            }
            next = program.part(label, 0);
        }

        /** Hands the value that has come to the expr that waits for it. */
        private void hand(int top) {
            int label = waiting[top];
            int kind = at(program.kind, label);
            scope = waitingScope[top];
            if (kind == IF) {
                choose(label);
            } else if (kind == LET) {
                waits = top;
                scope = bindings.bind(at(program.value, label), function, number, scope);
                next = program.part(label, 1);
            } else if (!holds[top]) {
                holds[top] = true;
                heldFunction[top] = function;
                heldNumber[top] = number;
                next = program.part(label, 1);
            } else if (kind == CALL) {
                enter(label, heldFunction[top], heldNumber[top]);
            } else {
                reckon(label, kind, heldFunction[top], heldNumber[top]);
            }
        }

        private void choose(int label) {
            if (function != NONE) {
                end(CAME_STUCK, label);
                return;
            }
            waits--;
            next = program.part(label, number != 0 ? 1 : 2);
        }

        private void enter(int label, int callee, long itsScope) {
            if (callee == NONE) {
                end(CAME_STUCK, label);
                return;
            }
            if (label >= 0 && label < MAX_EXPRS) {
                called[label] |= 1L << callee;
            }
            waits--;
            int functionLabel = at(program.functionLabel, callee);
            scope = bindings.bind(at(program.value, functionLabel), function, number, (int) itsScope);
            next = program.part(functionLabel, 0);
        }

        private void reckon(int label, int kind, int firstFunction, long first) {
            if (firstFunction != NONE || function != NONE) {
                end(CAME_STUCK, label);
                return;
            }
            waits--;
            switch (kind) {
                case PLUS: come(NONE, first + number); break;
                case MINUS: come(NONE, first - number); break;
                case TIMES: come(NONE, first * number); break;
                case EQUAL: come(NONE, first == number ? 1 : 0); break;
                default: come(NONE, first < number ? 1 : 0); break;
            }
        }
    }

    /** Writes a program. Bytes behind the longest text are only counted. */
    private static final class Writer {
        final byte[] bytes = new byte[MAX_TEXT];
        int length;

        void put(Program program) {
            length = 0;
            for (int label = 0; label < program.exprs; label++) {
                putBlank(program, label);
                putHead(program, label);
                putEnds(program, label);
            }
        }

        private void putByte(int c) {
            if (length < MAX_TEXT) {
                bytes[length] = (byte) c;
            }
            length++;
        }

        private void putText(String s) {
            for (int i = 0; i < s.length(); i++) {
                putByte(s.charAt(i));
            }
        }

        private void putNumber(int n) {
            if (n < 0) {
                putByte('-');
            }
            int rest = Math.abs(n);
            for (int unit = HIGHEST_UNIT; unit > 0; unit /= 10) {
                if (unit == 1 || rest >= unit) {
                    putByte('0' + rest / unit % 10);
                }
            }
        }

        private void putVariable(int variable) {
            putByte('v');
            putNumber(variable);
        }

        private void putBlank(Program program, int label) {
            int parent = at(program.parent, label);
            int kind = at(program.kind, parent);
            boolean rightBehind = kind == LAMBDA || kind == CALL && program.part(parent, 0) == label;
            if (parent != NONE && !rightBehind) {
                putByte(' ');
            }
        }

        private void putHead(Program program, int label) {
            int kind = at(program.kind, label);
            int value = at(program.value, label);
            switch (kind) {
                case NAME:
                    putVariable(value);
                    break;
                case NUMBER:
                    putNumber(value);
                    break;
                case LAMBDA:
                    putByte('\\');
                    putVariable(value);
                    putByte('.');
                    break;
                case FIX:
                    putText("(fix ");
                    putVariable(at(program.self, label));
                    putByte(' ');
                    putVariable(value);
                    break;
                case IF:
                    putText("(if");
                    break;
                case LET:
                    putText("(let ");
                    putVariable(value);
                    break;
                case CALL:
                    putByte('(');
                    break;
                default:
                    putByte('(');
                    putByte(at(OPERATION_SIGNS, kind - PLUS));
                    break;
            }
        }

        /** The brackets of all that ends with this expr, the innermost first. */
        private void putEnds(Program program, int label) {
            int ending = label;
            for (int i = 0; i <= label && program.endOf(ending) == label + 1; i++) {
                if (at(program.kind, ending) >= FIX) {
                    putByte(')');
                }
                ending = at(program.parent, ending);
            }
        }
    }
}
