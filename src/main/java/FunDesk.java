import java.util.NoSuchElementException;

/**
 * A desk for a small language of functions: a line is typed, becomes a program if it is an expression
 * with a type, and is then worked out step by step.
 */
public final class FunDesk {
    /** What stands where there is no node, no type, no character. */
    private static final int NONE = -1;

    private final Line line;
    private final Tree draft;
    private final Tree program;
    private final Reader reader;
    private final Types types;
    private final Checker checker;
    private final Machine machine;
    private final Row typeText;
    private int typeLength;
    private Value looked;

    public FunDesk() {
        line = new Line();
        draft = new Tree();
        program = new Tree();
        reader = new Reader(line, draft);
        types = new Types();
        checker = new Checker(draft, types);
        machine = new Machine(program);
        typeText = new Row(Types.LONGEST);
    }

    public boolean type(char c) {
        return line.append(c);
    }

    public void wipe() {
        line.clear();
    }

    public int load() throws IllegalArgumentException, NoSuchElementException, UnsupportedOperationException {
        if (!reader.reads()) {
            throw new IllegalArgumentException("the line is no expression");
        }
        if (!reader.allBound()) {
            throw new NoSuchElementException("a name is not bound");
        }
        if (!checker.accepts()) {
            throw new UnsupportedOperationException("the expression is ill typed");
        }
        typeLength = types.write(draft.typeOf(draft.root()), typeText);
        program.copy(draft);
        machine.begin();
        looked = null;
        line.clear();
        return typeLength;
    }

    public int shown(int k) {
        return k >= 0 && k < typeLength ? typeText.get(k) : NONE;
    }

    public int run(int n) {
        if (n < 0 || n > Machine.MOST_AT_ONCE || machine.phase() != Machine.UNDER_WAY) {
            return NONE;
        }
        int made = machine.go(n);
        looked = machine.result();
        return made;
    }

    public int state(int what) {
        switch (what) {
            case 0:
                return machine.phase();
            case 1:
                return machine.failure();
            case 2:
                return machine.steps();
            case 3:
                return machine.allSteps();
            default:
                return NONE;
        }
    }

    public int value(int what) throws IllegalStateException, IndexOutOfBoundsException {
        Value seen = looked;
        if (seen == null) {
            throw new IllegalStateException("nothing is worked out");
        }
        switch (what) {
            case 0:
                return seen.kind;
            case 1:
                return seen.kind == Value.NUMBER || seen.kind == Value.TRUTH ? seen.number : 0;
            case 2:
                return seen.kind == Value.LIST ? seen.number : 0;
            default:
                throw new IndexOutOfBoundsException("there is nothing else to ask of a value");
        }
    }

    public double real() throws IllegalStateException {
        Value seen = looked;
        if (seen == null) {
            throw new IllegalStateException("nothing is worked out");
        }
        return seen.kind == Value.REAL ? seen.real : 0.0;
    }

    public void item(int k) throws IllegalStateException, IndexOutOfBoundsException {
        Value seen = looked;
        if (seen == null) {
            throw new IllegalStateException("nothing is worked out");
        }
        Value found = seen.itemAt(k);
        if (found == null) {
            throw new IndexOutOfBoundsException("there is no such item");
        }
        looked = found;
    }

    public void top() throws IllegalStateException {
        if (looked == null) {
            throw new IllegalStateException("nothing is worked out");
        }
        looked = machine.result();
    }

    /** A row of numbers that is made once and used again; outside it NONE is read and nothing is written. */
    private static final class Row {
        private final int[] cells;

        Row(int length) {
            cells = new int[length < 0 ? 0 : length];
        }

        int get(int at) {
            return at >= 0 && at < cells.length ? cells[at] : NONE;
        }

        void set(int at, int number) {
            if (at >= 0 && at < cells.length) {
                cells[at] = number;
            }
        }

        void fill(int number) {
            for (int i = 0; i < cells.length; i++) {
                cells[i] = number;
            }
        }

        void copy(Row from) {
            for (int i = 0; i < cells.length; i++) {
                cells[i] = from.get(i);
            }
        }
    }

    /** The line that is typed. */
    private static final class Line {
        static final int LONGEST = 60;

        private final Row characters = new Row(LONGEST);
        private int length;

        boolean append(int c) {
            if (c < 32 || c > 126 || length >= LONGEST) {
                return false;
            }
            characters.set(length, c);
            length++;
            return true;
        }

        void clear() {
            length = 0;
        }

        /** NONE behind the end. */
        int charAt(int at) {
            return at < length ? characters.get(at) : NONE;
        }
    }

    /**
     * An expression as it was read: nodes with up to three parts. Patterns are nodes too, with the same
     * kinds where they look the same. Parentheses make no node.
     */
    private static final class Tree {
        /** Its number is the number; of REAL the thousandths; of TRUTH 1 or 0. */
        static final int NUMBER = 0;
        static final int REAL = 1;
        static final int TRUTH = 2;
        static final int EMPTY = 3;
        /** R or I; its number is the letter. */
        static final int BUILTIN = 4;
        /** A name that is used; its number is the letter. */
        static final int NAME = 5;
        /** A name and a _ in a pattern. */
        static final int BINDER = 6;
        static final int ANY = 7;
        static final int NEGATE = 8;
        /** Its number is the sign, with POINTED added if a point stands behind it. */
        static final int OPERATION = 9;
        static final int CONS = 10;
        static final int APPLY = 11;
        /** Of FUNCTION, LET and REC the number is the name that is bound. */
        static final int FUNCTION = 12;
        static final int LET = 13;
        static final int REC = 14;
        static final int IF = 15;
        /** Its second part is the first BRANCH. */
        static final int CASE = 16;
        /** Pattern, expression, and the next BRANCH; its number is how many names the pattern binds. */
        static final int BRANCH = 17;

        static final int POINTED = 128;

        /** Sixty characters make at most 60 nodes of their own and 59 APPLYs between them. */
        private static final int MOST = 128;

        private final Row kinds = new Row(MOST);
        private final Row numbers = new Row(MOST);
        private final Row firsts = new Row(MOST);
        private final Row seconds = new Row(MOST);
        private final Row thirds = new Row(MOST);
        private final Row parents = new Row(MOST);
        private final Row typesOf = new Row(MOST);
        private int count;
        private int root = NONE;

        void clear() {
            count = 0;
            root = NONE;
        }

        int add(int kind, int number, int first, int second, int third) {
            if (count >= MOST) {
                return NONE;
            }
            int node = count;
            count++;
            kinds.set(node, kind);
            numbers.set(node, number);
            firsts.set(node, first);
            seconds.set(node, second);
            thirds.set(node, third);
            parents.set(node, NONE);
            typesOf.set(node, NONE);
            parents.set(first, node);
            parents.set(second, node);
            parents.set(third, node);
            return node;
        }

        int addLeaf(int kind, int number) {
            return add(kind, number, NONE, NONE, NONE);
        }

        void setSecond(int node, int second) {
            seconds.set(node, second);
            parents.set(second, node);
        }

        /** Puts a BRANCH behind the one before it, or as the first one of the CASE. */
        void addBranch(int choice, int before, int branch) {
            if (before == NONE) {
                seconds.set(choice, branch);
            } else {
                thirds.set(before, branch);
            }
            parents.set(branch, choice);
        }

        void setRoot(int node) {
            root = node;
        }

        void setType(int node, int type) {
            typesOf.set(node, type);
        }

        int root() {
            return root;
        }

        int size() {
            return count;
        }

        int kind(int node) {
            return kinds.get(node);
        }

        int number(int node) {
            return numbers.get(node);
        }

        int first(int node) {
            return firsts.get(node);
        }

        int second(int node) {
            return seconds.get(node);
        }

        int third(int node) {
            return thirds.get(node);
        }

        int parent(int node) {
            return parents.get(node);
        }

        int typeOf(int node) {
            return typesOf.get(node);
        }

        void copy(Tree from) {
            count = from.count;
            root = from.root;
            kinds.copy(from.kinds);
            numbers.copy(from.numbers);
            firsts.copy(from.firsts);
            seconds.copy(from.seconds);
            thirds.copy(from.thirds);
            parents.copy(from.parents);
            typesOf.copy(from.typesOf);
        }
    }

    /**
     * Reads the line into a tree. Once something is wrong the reader is broken: it then finds no
     * character any more, so that everything that is open comes to its end.
     */
    private static final class Reader {
        private static final int DEEPEST = 16;
        private static final int MOST_BRANCHES = 5;
        private static final int LETTERS = 26;

        private final Line text;
        private final Tree tree;
        /** How many times each letter is bound where the reader stands. */
        private final Row bound = new Row(LETTERS);
        private int at;
        private boolean broken;
        private boolean unbound;
        /** The letters of the pattern that is read, a bit each. */
        private int patternNames;

        Reader(Line text, Tree tree) {
            this.text = text;
            this.tree = tree;
        }

        boolean reads() {
            at = 0;
            broken = false;
            unbound = false;
            bound.fill(0);
            tree.clear();
            tree.setRoot(expression(1));
            return !broken && next() == NONE;
        }

        boolean allBound() {
            return !unbound;
        }

        /** The character that comes next, blanks left out; NONE at the end. */
        private int next() {
            for (int i = 0; i < Line.LONGEST && text.charAt(at) == ' '; i++) {
                at++;
            }
            return broken ? NONE : text.charAt(at);
        }

        private boolean takes(int c) {
            if (next() != c) {
                return false;
            }
            at++;
            return true;
        }

        private void expect(int c) {
            if (!takes(c)) {
                broken = true;
            }
        }

        private int breakOff() {
            broken = true;
            return NONE;
        }

        private int name() {
            int c = next();
            if (c < 'a' || c > 'z') {
                return breakOff();
            }
            at++;
            return c;
        }

        private void bind(int name, int times) {
            bound.set(name - 'a', bound.get(name - 'a') + times);
        }

        private void bindAll(int names, int times) {
            for (int i = 0; i < LETTERS; i++) {
                if ((names >> i & 1) == 1) {
                    bind('a' + i, times);
                }
            }
        }

        private int expression(int depth) {
            if (depth > DEEPEST) {
                return breakOff();
            }
            switch (next()) {
                case '\\':
                    return function(depth);
                case '!':
                    return let(depth);
                case '@':
                    return recursion(depth);
                case '?':
                    return condition(depth);
                case '#':
                    return choice(depth);
                default:
                    return list(depth);
            }
        }

        private int function(int depth) {
            expect('\\');
            int name = name();
            expect('.');
            bind(name, 1);
            int body = expression(depth + 1);
            bind(name, -1);
            return tree.add(Tree.FUNCTION, name, body, NONE, NONE);
        }

        private int let(int depth) {
            expect('!');
            int name = name();
            expect('=');
            int first = expression(depth + 1);
            expect(';');
            bind(name, 1);
            int second = expression(depth + 1);
            bind(name, -1);
            return tree.add(Tree.LET, name, first, second, NONE);
        }

        private int recursion(int depth) {
            expect('@');
            int name = name();
            expect('=');
            bind(name, 1);
            int function = next() == '\\' ? expression(depth + 1) : breakOff();
            expect(';');
            int second = expression(depth + 1);
            bind(name, -1);
            return tree.add(Tree.REC, name, function, second, NONE);
        }

        private int condition(int depth) {
            expect('?');
            int asked = expression(depth + 1);
            expect(':');
            int yes = expression(depth + 1);
            expect('|');
            int no = expression(depth + 1);
            return tree.add(Tree.IF, 0, asked, yes, no);
        }

        private int choice(int depth) {
            expect('#');
            int choice = tree.add(Tree.CASE, 0, expression(depth + 1), NONE, NONE);
            expect('{');
            int before = NONE;
            for (int i = 0; i < MOST_BRANCHES; i++) {
                int branch = branch(depth);
                tree.addBranch(choice, before, branch);
                before = branch;
                if (!takes('|')) {
                    expect('}');
                    return choice;
                }
            }
            return breakOff();
        }

        private int branch(int depth) {
            patternNames = 0;
            int pattern = pattern(depth + 1);
            int names = patternNames;
            expect(':');
            bindAll(names, 1);
            int body = expression(depth + 1);
            bindAll(names, -1);
            return tree.add(Tree.BRANCH, Integer.bitCount(names), pattern, body, NONE);
        }

        private int pattern(int depth) {
            if (depth > DEEPEST) {
                return breakOff();
            }
            int part = part(depth);
            if (!takes(',')) {
                return part;
            }
            return tree.add(Tree.CONS, 0, part, pattern(depth + 1), NONE);
        }

        private int part(int depth) {
            int c = next();
            if (c >= 'a' && c <= 'z') {
                return binder();
            }
            if (isDigit(c)) {
                return tree.addLeaf(Tree.NUMBER, digits(4));
            }
            if (takes('_')) {
                return tree.addLeaf(Tree.ANY, 0);
            }
            if (takes('(')) {
                int inner = pattern(depth + 1);
                expect(')');
                return inner;
            }
            return constant();
        }

        private int binder() {
            int name = name();
            int bit = 1 << (name - 'a');
            if ((patternNames & bit) != 0) {
                return breakOff();
            }
            patternNames |= bit;
            return tree.addLeaf(Tree.BINDER, name);
        }

        /** T, F or [], which stand in expressions and in patterns. */
        private int constant() {
            if (takes('T')) {
                return tree.addLeaf(Tree.TRUTH, 1);
            }
            if (takes('F')) {
                return tree.addLeaf(Tree.TRUTH, 0);
            }
            if (takes('[') && text.charAt(at) == ']') {
                at++;
                return tree.addLeaf(Tree.EMPTY, 0);
            }
            return breakOff();
        }

        /** CONS of the document: built from the front, each cell takes its rest when that is known. */
        private int list(int depth) {
            int whole = NONE;
            int last = NONE;
            for (int i = 0; i < Line.LONGEST; i++) {
                int part = comparison(depth);
                boolean goesOn = takes(',');
                if (goesOn) {
                    part = tree.add(Tree.CONS, 0, part, NONE, NONE);
                }
                if (last == NONE) {
                    whole = part;
                } else {
                    tree.setSecond(last, part);
                }
                last = part;
                if (!goesOn) {
                    return whole;
                }
            }
            return breakOff();
        }

        private int comparison(int depth) {
            int left = sum(depth);
            int sign = takes('=') ? '=' : operator('<', '<');
            if (sign == NONE) {
                return left;
            }
            return tree.add(Tree.OPERATION, sign, left, sum(depth), NONE);
        }

        private int sum(int depth) {
            int left = product(depth);
            for (int i = 0; i < Line.LONGEST; i++) {
                int sign = operator('+', '-');
                if (sign == NONE) {
                    return left;
                }
                left = tree.add(Tree.OPERATION, sign, left, product(depth), NONE);
            }
            return breakOff();
        }

        private int product(int depth) {
            int left = application(depth);
            for (int i = 0; i < Line.LONGEST; i++) {
                int sign = operator('*', '/');
                if (sign == NONE) {
                    return left;
                }
                left = tree.add(Tree.OPERATION, sign, left, application(depth), NONE);
            }
            return breakOff();
        }

        /** Takes one of two signs, with a point right behind it; NONE if neither comes. */
        private int operator(int one, int other) {
            int sign = next();
            if (sign == NONE || sign != one && sign != other) {
                return NONE;
            }
            at++;
            if (text.charAt(at) != '.') {
                return sign;
            }
            at++;
            return sign + Tree.POINTED;
        }

        private int application(int depth) {
            int left = atom(depth);
            for (int i = 0; i < Line.LONGEST && startsAtom(next()); i++) {
                left = tree.add(Tree.APPLY, 0, left, atom(depth), NONE);
            }
            return left;
        }

        private static boolean startsAtom(int c) {
            switch (c) {
                case 'T':
                case 'F':
                case 'R':
                case 'I':
                case '~':
                case '[':
                case '(':
                    return true;
                default:
                    return isDigit(c) || c >= 'a' && c <= 'z';
            }
        }

        private static boolean isDigit(int c) {
            return c >= '0' && c <= '9';
        }

        private int atom(int depth) {
            int negations = 0;
            while (negations < Line.LONGEST && takes('~')) {
                negations++;
            }
            int node = plainAtom(depth);
            for (int i = 0; i < negations; i++) {
                node = tree.add(Tree.NEGATE, 0, node, NONE, NONE);
            }
            return node;
        }

        private int plainAtom(int depth) {
            int c = next();
            if (c >= 'a' && c <= 'z') {
                return usedName();
            }
            if (isDigit(c)) {
                return numeral();
            }
            if (takes('R')) {
                return tree.addLeaf(Tree.BUILTIN, 'R');
            }
            if (takes('I')) {
                return tree.addLeaf(Tree.BUILTIN, 'I');
            }
            if (takes('(')) {
                int inner = expression(depth + 1);
                expect(')');
                return inner;
            }
            return constant();
        }

        private int usedName() {
            int name = name();
            if (bound.get(name - 'a') < 1) {
                unbound = true;
            }
            return tree.addLeaf(Tree.NAME, name);
        }

        /** A NUMBER or a REAL; nothing that begins with a point may follow a NUMBER. */
        private int numeral() {
            int whole = digits(4);
            if (text.charAt(at) != '.') {
                return tree.addLeaf(Tree.NUMBER, whole);
            }
            at++;
            int start = at;
            int thousandths = digits(3);
            for (int i = at - start; i < 3; i++) {
                thousandths *= 10;
            }
            return tree.addLeaf(Tree.REAL, whole * 1000 + thousandths);
        }

        private int digits(int most) {
            int number = 0;
            int count = 0;
            while (count <= most && isDigit(text.charAt(at))) {
                number = number * 10 + text.charAt(at) - '0';
                at++;
                count++;
            }
            if (count == 0 || count > most) {
                broken = true;
            }
            return number;
        }
    }

    /**
     * The types that are made while one expression is checked. A variable is linked to what it turned out
     * to be. Its level tells how many LETs and RECs were being checked when it was made, or when it came
     * into the type of a name from further out; GENERIC stands for a new variable at each place.
     */
    private static final class Types {
        static final int LONGEST = 80;

        /** The three types without parts, each at the place of its number. */
        static final int WHOLE = 0;
        static final int TRUTH = 1;
        static final int REAL = 2;

        private static final int LIST = '[';
        private static final int ARROW = '>';
        private static final int VARIABLE = '?';
        private static final int GENERIC = 1000;

        /** A type whose parts go deeper is shown with more than LONGEST characters: [ ] cost two a level. */
        private static final int DEEPEST = 40;
        /** A type of LONGEST characters has at most twenty leaves. */
        private static final int MOST_VARIABLES = 20;
        /** Sixty names with the 41 parts that a type of LONGEST characters can have, and 3 for each node. */
        private static final int MOST = 3000;

        /** The letter of a type without parts, or LIST, ARROW, VARIABLE. */
        private final Row kinds = new Row(MOST);
        /** The part of a LIST, the argument of an ARROW, what a VARIABLE is linked to. */
        private final Row firsts = new Row(MOST);
        /** The result of an ARROW, the level of a VARIABLE. */
        private final Row seconds = new Row(MOST);
        private final Row listed = new Row(MOST_VARIABLES);
        private final Row copies = new Row(MOST_VARIABLES);
        private int count;
        private int listedCount;
        private int written;

        void clear() {
            count = 0;
            make('i', NONE, NONE);
            make('b', NONE, NONE);
            make('r', NONE, NONE);
        }

        private int make(int kind, int first, int second) {
            if (count >= MOST) {
                return NONE;
            }
            int type = count;
            count++;
            kinds.set(type, kind);
            firsts.set(type, first);
            seconds.set(type, second);
            return type;
        }

        int fresh(int level) {
            return make(VARIABLE, NONE, level);
        }

        int list(int part) {
            return make(LIST, part, NONE);
        }

        int arrow(int argument, int result) {
            return make(ARROW, argument, result);
        }

        private int resolve(int type) {
            int found = type;
            for (int i = 0; i < MOST && kinds.get(found) == VARIABLE && firsts.get(found) != NONE; i++) {
                found = firsts.get(found);
            }
            return found;
        }

        boolean tooLong(int type) {
            return length(type, 0) > LONGEST;
        }

        /** How many characters show the type; if these are too many, only that is known. */
        private int length(int type, int depth) {
            if (depth > DEEPEST) {
                return LONGEST + 1;
            }
            int t = resolve(type);
            switch (kinds.get(t)) {
                case LIST:
                    return 2 + length(firsts.get(t), depth + 1);
                case ARROW:
                    int argument = length(firsts.get(t), depth + 1);
                    return argument > LONGEST ? argument : 3 + argument + length(seconds.get(t), depth + 1);
                default:
                    return 1;
            }
        }

        /**
         * Makes two types the same, if they can be. Every type that comes here is that of a part of the
         * expression, or will be, so that one that is too long may be refused at once.
         */
        boolean unify(int one, int other, int depth) {
            int a = resolve(one);
            int b = resolve(other);
            if (a == b) {
                return true;
            }
            if (depth > DEEPEST || tooLong(a) || tooLong(b)) {
                return false;
            }
            if (kinds.get(a) == VARIABLE) {
                return link(a, b);
            }
            if (kinds.get(b) == VARIABLE) {
                return link(b, a);
            }
            if (kinds.get(a) != kinds.get(b)) {
                return false;
            }
            if (kinds.get(a) == ARROW && !unify(firsts.get(a), firsts.get(b), depth + 1)) {
                return false;
            }
            return kinds.get(a) == ARROW
                    ? unify(seconds.get(a), seconds.get(b), depth + 1)
                    : unify(firsts.get(a), firsts.get(b), depth + 1);
        }

        private boolean link(int variable, int type) {
            if (!takesIn(variable, type, 0)) {
                return false;
            }
            firsts.set(variable, type);
            return true;
        }

        /** False if the variable stands in the type; else what stands there is as far out as the variable. */
        private boolean takesIn(int variable, int type, int depth) {
            int t = resolve(type);
            if (t == variable || depth > DEEPEST) {
                return false;
            }
            switch (kinds.get(t)) {
                case LIST:
                    return takesIn(variable, firsts.get(t), depth + 1);
                case ARROW:
                    return takesIn(variable, firsts.get(t), depth + 1)
                            && takesIn(variable, seconds.get(t), depth + 1);
                case VARIABLE:
                    seconds.set(t, Math.min(seconds.get(t), seconds.get(variable)));
                    return true;
                default:
                    return true;
            }
        }

        /** From now on the variables that were made further in than the level are new at each place. */
        void generalise(int type, int level, int depth) {
            int t = resolve(type);
            if (depth > DEEPEST) {
                return;
            }
            switch (kinds.get(t)) {
                case LIST:
                    generalise(firsts.get(t), level, depth + 1);
                    break;
                case ARROW:
                    generalise(firsts.get(t), level, depth + 1);
                    generalise(seconds.get(t), level, depth + 1);
                    break;
                case VARIABLE:
                    if (seconds.get(t) > level) {
                        seconds.set(t, GENERIC);
                    }
                    break;
                default:
                    break;
            }
        }

        /** The type at one place where its name is used; NONE if it is too long. */
        int instance(int type, int level) {
            listedCount = 0;
            return tooLong(type) ? NONE : copy(type, level, 0);
        }

        private int copy(int type, int level, int depth) {
            int t = resolve(type);
            if (depth > DEEPEST) {
                return t;
            }
            int first = firsts.get(t);
            switch (kinds.get(t)) {
                case LIST:
                    int part = copy(first, level, depth + 1);
                    return part == resolve(first) ? t : list(part);
                case ARROW:
                    int second = seconds.get(t);
                    int argument = copy(first, level, depth + 1);
                    int result = copy(second, level, depth + 1);
                    return argument == resolve(first) && result == resolve(second) ? t : arrow(argument, result);
                case VARIABLE:
                    return seconds.get(t) == GENERIC ? copyOf(t, level) : t;
                default:
                    return t;
            }
        }

        private int copyOf(int variable, int level) {
            int place = placeOf(variable);
            if (copies.get(place) == NONE) {
                copies.set(place, make(VARIABLE, NONE, level));
            }
            return copies.get(place);
        }

        /** Where the variable stands in the list of those that were met, put there if it is new. */
        private int placeOf(int variable) {
            for (int i = 0; i < listedCount; i++) {
                if (listed.get(i) == variable) {
                    return i;
                }
            }
            listed.set(listedCount, variable);
            copies.set(listedCount, NONE);
            listedCount++;
            return listedCount - 1;
        }

        /** Writes the type as it is shown, and answers how many characters that took. */
        int write(int type, Row text) {
            listedCount = 0;
            written = 0;
            writePart(type, text, 0);
            return written;
        }

        private void writePart(int type, Row text, int depth) {
            if (depth > DEEPEST) {
                return;
            }
            int t = resolve(type);
            switch (kinds.get(t)) {
                case LIST:
                    put('[', text);
                    writePart(firsts.get(t), text, depth + 1);
                    put(']', text);
                    break;
                case ARROW:
                    put('(', text);
                    writePart(firsts.get(t), text, depth + 1);
                    put('>', text);
                    writePart(seconds.get(t), text, depth + 1);
                    put(')', text);
                    break;
                case VARIABLE:
                    put('a' + placeOf(t), text);
                    break;
                default:
                    put(kinds.get(t), text);
                    break;
            }
        }

        private void put(int c, Row text) {
            text.set(written, c);
            written++;
        }
    }

    /** Finds the most general type of every part of a tree. */
    private static final class Checker {
        /** Each level of a tree takes one of the line's characters at least. */
        private static final int DEEPEST = 64;

        private final Tree tree;
        private final Types types;
        private final Row names = new Row(DEEPEST);
        private final Row nameTypes = new Row(DEEPEST);
        private int open;
        private int level;
        private boolean ill;

        Checker(Tree tree, Types types) {
            this.tree = tree;
            this.types = types;
        }

        boolean accepts() {
            types.clear();
            open = 0;
            level = 0;
            ill = false;
            infer(tree.root(), 0);
            for (int node = 0; node < tree.size() && !ill; node++) {
                ill = types.tooLong(tree.typeOf(node));
            }
            return !ill;
        }

        private void demand(int type, int wanted) {
            if (!ill && !types.unify(type, wanted, 0)) {
                ill = true;
            }
        }

        private void enter(int name, int type) {
            names.set(open, name);
            nameTypes.set(open, type);
            open++;
        }

        private int typeOfName(int name) {
            for (int i = open - 1; i >= 0; i--) {
                if (names.get(i) == name) {
                    return nameTypes.get(i);
                }
            }
            return NONE;
        }

        private int infer(int node, int depth) {
            if (depth > DEEPEST) {
                ill = true;
            }
            if (ill) {
                return NONE;
            }
            int type = tree.first(node) == NONE ? leaf(node) : inferWhole(node, depth);
            if (type == NONE) {
                ill = true;
            }
            tree.setType(node, type);
            return type;
        }

        private int leaf(int node) {
            switch (tree.kind(node)) {
                case Tree.NUMBER:
                    return Types.WHOLE;
                case Tree.REAL:
                    return Types.REAL;
                case Tree.TRUTH:
                    return Types.TRUTH;
                case Tree.EMPTY:
                    return types.list(types.fresh(level));
                case Tree.BUILTIN:
                    return tree.number(node) == 'R'
                            ? types.arrow(Types.WHOLE, Types.REAL) : types.arrow(Types.REAL, Types.WHOLE);
                case Tree.NAME:
                    return types.instance(typeOfName(tree.number(node)), level);
                case Tree.BINDER:
                    int type = types.fresh(level);
                    enter(tree.number(node), type);
                    return type;
                default:
                    return types.fresh(level);
            }
        }

        private int inferWhole(int node, int depth) {
            switch (tree.kind(node)) {
                case Tree.NEGATE:
                    demand(infer(tree.first(node), depth + 1), Types.REAL);
                    return Types.REAL;
                case Tree.OPERATION:
                    int operand = operandOf(tree.number(node));
                    demand(infer(tree.first(node), depth + 1), operand);
                    demand(infer(tree.second(node), depth + 1), operand);
                    return compares(tree.number(node)) ? Types.TRUTH : operand;
                case Tree.CONS:
                    int list = types.list(infer(tree.first(node), depth + 1));
                    demand(infer(tree.second(node), depth + 1), list);
                    return list;
                case Tree.APPLY:
                    int applied = infer(tree.first(node), depth + 1);
                    int argument = infer(tree.second(node), depth + 1);
                    int result = types.fresh(level);
                    demand(applied, types.arrow(argument, result));
                    return result;
                case Tree.FUNCTION:
                    int parameter = types.fresh(level);
                    enter(tree.number(node), parameter);
                    int body = infer(tree.first(node), depth + 1);
                    open--;
                    return types.arrow(parameter, body);
                case Tree.LET:
                    return inferLet(node, depth);
                case Tree.REC:
                    return inferRecursion(node, depth);
                case Tree.IF:
                    return inferCondition(node, depth);
                default:
                    return inferChoice(node, depth);
            }
        }

        private static boolean compares(int sign) {
            return sign == '=' || sign == '<' || sign == '<' + Tree.POINTED;
        }

        private static int operandOf(int sign) {
            return sign >= Tree.POINTED ? Types.REAL : Types.WHOLE;
        }

        private int inferLet(int node, int depth) {
            level++;
            int type = infer(tree.first(node), depth + 1);
            level--;
            return inferBound(node, type, depth);
        }

        private int inferRecursion(int node, int depth) {
            level++;
            int own = types.fresh(level);
            enter(tree.number(node), own);
            int type = infer(tree.first(node), depth + 1);
            demand(own, type);
            open--;
            level--;
            return inferBound(node, type, depth);
        }

        /** The second EXPR of LET and REC, with the name bound to the most general type. */
        private int inferBound(int node, int type, int depth) {
            if (ill || types.tooLong(type)) {
                ill = true;
                return NONE;
            }
            types.generalise(type, level, 0);
            enter(tree.number(node), type);
            int result = infer(tree.second(node), depth + 1);
            open--;
            return result;
        }

        private int inferCondition(int node, int depth) {
            demand(infer(tree.first(node), depth + 1), Types.TRUTH);
            int type = infer(tree.second(node), depth + 1);
            demand(infer(tree.third(node), depth + 1), type);
            return type;
        }

        private int inferChoice(int node, int depth) {
            int looked = infer(tree.first(node), depth + 1);
            int result = types.fresh(level);
            int branch = tree.second(node);
            for (int i = 0; i < Reader.MOST_BRANCHES && branch != NONE && !ill; i++) {
                int outside = open;
                demand(infer(tree.first(branch), depth + 1), looked);
                demand(infer(tree.second(branch), depth + 1), result);
                open = outside;
                branch = tree.third(branch);
            }
            return result;
        }
    }

    /** What an expression is worth. */
    private static final class Value {
        static final int NUMBER = 0;
        static final int TRUTH = 1;
        static final int REAL = 2;
        static final int LIST = 3;
        static final int FUNCTION = 4;

        final int kind;
        /** The number, 1 or 0 for T or F, how many items a list has, the node of a function. */
        final int number;
        double real;
        Value first;
        Value rest;
        Scope scope;

        Value(int kind, int number) {
            this.kind = kind;
            this.number = number;
        }

        static Value ofReal(double real) {
            Value made = new Value(REAL, 0);
            made.real = real;
            return made;
        }

        static Value ofList(Value first, Value rest) {
            Value made = new Value(LIST, rest.number + 1);
            made.first = first;
            made.rest = rest;
            return made;
        }

        static Value ofFunction(int node, Scope scope) {
            Value made = new Value(FUNCTION, node);
            made.scope = scope;
            return made;
        }

        /** Null if it is no list or has no such item. */
        Value itemAt(int k) {
            if (kind != LIST || k < 0 || k >= number) {
                return null;
            }
            Value tail = this;
            for (int i = 0; i < k && tail != null; i++) {
                tail = tail.rest;
            }
            return tail == null ? null : tail.first;
        }
    }

    /** A name with its value, and what is bound around it. */
    private static final class Scope {
        final int name;
        final Value bound;
        final Scope outer;

        Scope(int name, Value bound, Scope outer) {
            this.name = name;
            this.bound = bound;
            this.outer = outer;
        }
    }

    /** Where the work goes on when a function's value is known. */
    private static final class Frame {
        final int node;
        final Scope scope;
        final Frame caller;

        Frame(int node, Scope scope, Frame caller) {
            this.node = node;
            this.scope = scope;
            this.caller = caller;
        }
    }

    /**
     * Works a program out. It walks through the tree: a node is entered, left when its value is known, and
     * between the two stands its step, if it has one. Values that wait lie in a pile.
     */
    private static final class Machine {
        static final int UNDER_WAY = 1;
        static final int WORKED_OUT = 2;
        static final int FAILED = 3;
        static final int MOST_AT_ONCE = 100;

        private static final int BY_ZERO = 1;
        private static final int NO_PATTERN = 2;
        private static final int TOO_LARGE = 3;
        private static final int TOO_MANY_STEPS = 4;
        private static final int TOO_MANY_WAIT = 5;

        private static final int MOST_STEPS = 500;
        private static final int MOST_STEPS_OF_ALL = 1000;
        private static final int MOST_WAITING = 200;
        private static final int LARGEST = 1000000000;
        /** Far above the moves that a hundred steps can need. */
        private static final int MOST_MOVES = 1000000;
        private static final int DEEPEST_PATTERN = 16;

        private static final int ENTER = 0;
        private static final int LEAVE = 1;
        private static final int STEP = 2;

        private final Tree tree;
        private final Value[] waiting = new Value[MOST_WAITING];
        private int waits;
        private int at;
        private int move;
        private Scope scope;
        private Frame frame;
        private int phase;
        private int failure;
        private int steps;
        private int allSteps;
        private Value result;

        Machine(Tree tree) {
            this.tree = tree;
        }

        void begin() {
            waits = 0;
            at = tree.root();
            move = ENTER;
            scope = null;
            frame = null;
            phase = UNDER_WAY;
            failure = 0;
            steps = 0;
            result = null;
        }

        int phase() {
            return phase;
        }

        int failure() {
            return failure;
        }

        int steps() {
            return steps;
        }

        int allSteps() {
            return allSteps;
        }

        /** Null unless the program is worked out. */
        Value result() {
            return result;
        }

        int go(int most) {
            int made = 0;
            for (int i = 0; i < MOST_MOVES && phase == UNDER_WAY; i++) {
                if (move == ENTER) {
                    enter();
                } else if (move == LEAVE) {
                    leave();
                } else if (made >= most) {
                    return made;
                } else if (steps >= MOST_STEPS || allSteps >= MOST_STEPS_OF_ALL) {
                    fail(TOO_MANY_STEPS);
                } else {
                    made++;
                    steps++;
                    allSteps++;
                    step();
                }
            }
            return made;
        }

        private void fail(int code) {
            phase = FAILED;
            failure = code;
        }

        private void goInto(int node) {
            at = node;
            move = ENTER;
        }

        /** The value of the node is known: it waits, and the node is left. */
        private void settle(Value known) {
            if (waits < 0 || waits >= waiting.length) {
                fail(TOO_MANY_WAIT);
                return;
            }
            waiting[waits] = known;
            waits++;
            move = LEAVE;
        }

        private Value take() {
            if (waits > 0 && waits <= waiting.length) {
                waits--;
                Value taken = waiting[waits];
                if (taken != null) {
                    return taken;
                }
            }
            return new Value(Value.NUMBER, 0);
        }

        private void enter() {
            switch (tree.kind(at)) {
                case Tree.NUMBER:
                    settle(new Value(Value.NUMBER, tree.number(at)));
                    break;
                case Tree.REAL:
                    settle(Value.ofReal(tree.number(at) / 1000.0));
                    break;
                case Tree.TRUTH:
                    settle(new Value(Value.TRUTH, tree.number(at)));
                    break;
                case Tree.EMPTY:
                    settle(new Value(Value.LIST, 0));
                    break;
                case Tree.NAME:
                    settle(find(tree.number(at)));
                    break;
                case Tree.BUILTIN:
                case Tree.FUNCTION:
                    settle(Value.ofFunction(at, scope));
                    break;
                default:
                    goInto(tree.first(at));
                    break;
            }
        }

        private Value find(int name) {
            for (Scope s = scope; s != null; s = s.outer) {
                if (s.name == name && s.bound != null) {
                    return s.bound;
                }
            }
            return new Value(Value.NUMBER, 0);
        }

        private void leave() {
            int part = at;
            at = tree.parent(part);
            switch (tree.kind(at)) {
                case Tree.OPERATION:
                case Tree.CONS:
                case Tree.APPLY:
                    if (part == tree.first(at)) {
                        goInto(tree.second(at));
                    } else {
                        move = STEP;
                    }
                    break;
                case Tree.NEGATE:
                    move = STEP;
                    break;
                case Tree.IF:
                case Tree.CASE:
                    if (part == tree.first(at)) {
                        move = STEP;
                    }
                    break;
                case Tree.LET:
                case Tree.REC:
                    if (part == tree.first(at)) {
                        move = STEP;
                    } else {
                        unbind(1);
                    }
                    break;
                case Tree.BRANCH:
                    unbind(tree.number(at));
                    at = tree.parent(at);
                    break;
                case Tree.FUNCTION:
                    giveBack();
                    break;
                default:
                    finish();
                    break;
            }
        }

        private void unbind(int names) {
            for (int i = 0; i < names && scope != null; i++) {
                scope = scope.outer;
            }
        }

        private void giveBack() {
            Frame last = frame;
            if (last == null) {
                finish();
                return;
            }
            at = last.node;
            scope = last.scope;
            frame = last.caller;
        }

        private void finish() {
            result = take();
            phase = WORKED_OUT;
        }

        private void step() {
            switch (tree.kind(at)) {
                case Tree.NEGATE:
                    settle(Value.ofReal(-take().real));
                    break;
                case Tree.OPERATION:
                    operate();
                    break;
                case Tree.CONS:
                    Value rest = take();
                    settle(Value.ofList(take(), rest));
                    break;
                case Tree.APPLY:
                    apply();
                    break;
                case Tree.LET:
                    scope = new Scope(tree.number(at), take(), scope);
                    goInto(tree.second(at));
                    break;
                case Tree.REC:
                    bindOwn();
                    break;
                case Tree.IF:
                    goInto(take().number == 1 ? tree.second(at) : tree.third(at));
                    break;
                default:
                    choose();
                    break;
            }
        }

        /** The function of a REC was made in the scope around it; from its step on it knows itself. */
        private void bindOwn() {
            Value function = take();
            scope = new Scope(tree.number(at), function, scope);
            function.scope = scope;
            goInto(tree.second(at));
        }

        private void operate() {
            int sign = tree.number(at);
            Value right = take();
            Value left = take();
            if (sign == '<' + Tree.POINTED) {
                settle(new Value(Value.TRUTH, left.real < right.real ? 1 : 0));
            } else if (sign >= Tree.POINTED) {
                operateOnReals(sign - Tree.POINTED, left.real, right.real);
            } else {
                operateOnNumbers(sign, left.number, right.number);
            }
        }

        private void operateOnNumbers(int sign, int left, int right) {
            switch (sign) {
                case '+':
                    settle(new Value(Value.NUMBER, left + right));
                    break;
                case '-':
                    settle(new Value(Value.NUMBER, left - right));
                    break;
                case '*':
                    settle(new Value(Value.NUMBER, left * right));
                    break;
                case '<':
                    settle(new Value(Value.TRUTH, left < right ? 1 : 0));
                    break;
                case '=':
                    settle(new Value(Value.TRUTH, left == right ? 1 : 0));
                    break;
                default:
                    if (right == 0) {
                        fail(BY_ZERO);
                    } else {
                        settle(new Value(Value.NUMBER, left / right));
                    }
                    break;
            }
        }

        private void operateOnReals(int sign, double left, double right) {
            double known;
            if (sign == '+') {
                known = left + right;
            } else if (sign == '-') {
                known = left - right;
            } else if (sign == '*') {
                known = left * right;
            } else if (right == 0.0) {
                fail(BY_ZERO);
                return;
            } else {
                known = left / right;
            }
            if (known > LARGEST || known < -LARGEST) {
                fail(TOO_LARGE);
            } else {
                settle(Value.ofReal(known));
            }
        }

        private void apply() {
            Value argument = take();
            Value applied = take();
            int code = applied.number;
            if (tree.kind(code) == Tree.FUNCTION) {
                frame = new Frame(at, scope, frame);
                scope = new Scope(tree.number(code), argument, applied.scope);
                goInto(tree.first(code));
            } else if (tree.number(code) == 'R') {
                settle(Value.ofReal((double) argument.number));
            } else {
                settle(new Value(Value.NUMBER, (int) argument.real));
            }
        }

        private void choose() {
            Value seen = take();
            int branch = tree.second(at);
            for (int i = 0; i < Reader.MOST_BRANCHES && branch != NONE; i++) {
                int pattern = tree.first(branch);
                if (fits(pattern, seen, 0)) {
                    scope = bind(pattern, seen, scope, 0);
                    goInto(tree.second(branch));
                    return;
                }
                branch = tree.third(branch);
            }
            fail(NO_PATTERN);
        }

        private boolean fits(int pattern, Value seen, int depth) {
            if (seen == null || depth > DEEPEST_PATTERN) {
                return false;
            }
            switch (tree.kind(pattern)) {
                case Tree.NUMBER:
                case Tree.TRUTH:
                case Tree.EMPTY:
                    return seen.number == tree.number(pattern);
                case Tree.CONS:
                    return seen.number > 0 && fits(tree.first(pattern), seen.first, depth + 1)
                            && fits(tree.second(pattern), seen.rest, depth + 1);
                default:
                    return true;
            }
        }

        private Scope bind(int pattern, Value seen, Scope outer, int depth) {
            if (seen == null || depth > DEEPEST_PATTERN) {
                return outer;
            }
            switch (tree.kind(pattern)) {
                case Tree.BINDER:
                    return new Scope(tree.number(pattern), seen, outer);
                case Tree.CONS:
                    Scope inner = bind(tree.first(pattern), seen.first, outer, depth + 1);
                    return bind(tree.second(pattern), seen.rest, inner, depth + 1);
                default:
                    return outer;
            }
        }
    }
}
