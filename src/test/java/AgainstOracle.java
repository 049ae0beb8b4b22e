import java.util.ArrayList;
import java.util.HashMap;
import java.util.HashSet;
import java.util.LinkedHashMap;
import java.util.List;
import java.util.Map;
import java.util.NoSuchElementException;
import java.util.Random;
import java.util.Set;

/**
 * Runs FunDesk against a second program for the same document, written another way: tokens instead of
 * characters, substitutions instead of linked variables, and plain recursion that begins anew for each run
 * instead of a machine that stops and goes on. The lines are made from a fixed seed.
 */
public final class AgainstOracle {
    private static final int LINES = 60000;
    private static int wrong = 0;

    // ---- the tree ----

    private static final class Node {
        final String kind;
        final String text;
        final List<Node> parts = new ArrayList<>();
        Type type;

        Node(String kind, String text, Node... parts) {
            this.kind = kind;
            this.text = text;
            for (Node p : parts) {
                this.parts.add(p);
            }
        }

        Node part(int i) {
            return parts.get(i);
        }
    }

    private static final class Refused extends RuntimeException {
        private static final long serialVersionUID = 1L;
        final int kind;

        Refused(int kind) {
            super(null, null, false, false);
            this.kind = kind;
        }
    }

    // ---- reading ----

    private static final class Parser {
        final List<String> tokens = new ArrayList<>();
        int at = 0;

        Parser(String line) {
            int i = 0;
            while (i < line.length()) {
                char c = line.charAt(i);
                int end = i + 1;
                if (c == ' ') {
                    i = end;
                    continue;
                }
                if (Character.isDigit(c)) {
                    while (end < line.length() && Character.isDigit(line.charAt(end))) {
                        end++;
                    }
                    if (end + 1 < line.length() && line.charAt(end) == '.' && Character.isDigit(line.charAt(end + 1))) {
                        end++;
                        while (end < line.length() && Character.isDigit(line.charAt(end))) {
                            end++;
                        }
                    }
                } else if ("+-*/<".indexOf(c) >= 0 && line.startsWith(".", end)) {
                    end++;
                } else if (c == '[' && line.startsWith("]", end)) {
                    end++;
                }
                tokens.add(line.substring(i, end));
                i = end;
            }
        }

        String peek() {
            return at < tokens.size() ? tokens.get(at) : "";
        }

        boolean eat(String token) {
            if (peek().equals(token)) {
                at++;
                return true;
            }
            return false;
        }

        void need(String token) {
            if (!eat(token)) {
                throw new Refused(1);
            }
        }

        static boolean isName(String t) {
            return t.matches("[a-z]");
        }

        String name() {
            String t = peek();
            if (!isName(t)) {
                throw new Refused(1);
            }
            at++;
            return t;
        }

        Node whole() {
            Node n = expr(16);
            if (at != tokens.size()) {
                throw new Refused(1);
            }
            return n;
        }

        Node expr(int left) {
            if (left == 0) {
                throw new Refused(1);
            }
            if (eat("\\")) {
                String x = name();
                need(".");
                return new Node("fun", x, expr(left - 1));
            }
            if (eat("!")) {
                String x = name();
                need("=");
                Node a = expr(left - 1);
                need(";");
                return new Node("let", x, a, expr(left - 1));
            }
            if (eat("@")) {
                String x = name();
                need("=");
                Node a = expr(left - 1);
                if (!a.kind.equals("fun")) {
                    throw new Refused(1);
                }
                need(";");
                return new Node("rec", x, a, expr(left - 1));
            }
            if (eat("?")) {
                Node a = expr(left - 1);
                need(":");
                Node b = expr(left - 1);
                need("|");
                return new Node("if", "", a, b, expr(left - 1));
            }
            if (eat("#")) {
                Node n = new Node("case", "", expr(left - 1));
                need("{");
                do {
                    Set<String> names = new HashSet<>();
                    n.parts.add(pattern(left - 1, names));
                    need(":");
                    n.parts.add(expr(left - 1));
                } while (eat("|"));
                need("}");
                if (n.parts.size() > 11) {
                    throw new Refused(1);
                }
                return n;
            }
            return cons(left);
        }

        Node pattern(int left, Set<String> names) {
            if (left == 0) {
                throw new Refused(1);
            }
            Node a;
            String t = peek();
            if (eat("(")) {
                a = pattern(left - 1, names);
                need(")");
            } else if (isName(t)) {
                at++;
                if (!names.add(t)) {
                    throw new Refused(1);
                }
                a = new Node("bind", t);
            } else if (eat("_")) {
                a = new Node("any", "");
            } else if (t.matches("[0-9]{1,4}")) {
                at++;
                a = new Node("num", t);
            } else if (t.equals("T") || t.equals("F") || t.equals("[]")) {
                at++;
                a = new Node(t, t);
            } else {
                throw new Refused(1);
            }
            return eat(",") ? new Node(",", ",", a, pattern(left - 1, names)) : a;
        }

        Node cons(int left) {
            Node a = compare(left);
            return eat(",") ? new Node(",", ",", a, cons(left)) : a;
        }

        Node compare(int left) {
            Node a = sum(left);
            for (String op : new String[] {"<", "=", "<."}) {
                if (eat(op)) {
                    return new Node("op", op, a, sum(left));
                }
            }
            return a;
        }

        Node sum(int left) {
            Node a = product(left);
            while (peek().matches("[+-]\\.?")) {
                String op = tokens.get(at++);
                a = new Node("op", op, a, product(left));
            }
            return a;
        }

        Node product(int left) {
            Node a = apply(left);
            while (peek().matches("[*/]\\.?")) {
                String op = tokens.get(at++);
                a = new Node("op", op, a, apply(left));
            }
            return a;
        }

        Node apply(int left) {
            Node a = atom(left);
            while (peek().matches("[0-9].*|[TFRI~(a-z]|\\[\\]")) {
                a = new Node("apply", "", a, atom(left));
            }
            return a;
        }

        Node atom(int left) {
            String t = peek();
            if (eat("~")) {
                return new Node("~", "~", atom(left));
            }
            if (eat("(")) {
                // a function in parentheses is no FUNCTION for REC: a node of its own keeps them apart
                Node inner = expr(left - 1);
                need(")");
                return new Node("paren", "", inner);
            }
            at++;
            if (t.matches("[0-9]{1,4}")) {
                return new Node("num", t);
            }
            if (t.matches("[0-9]{1,4}\\.[0-9]{1,3}")) {
                return new Node("real", t);
            }
            if (isName(t)) {
                return new Node("name", t);
            }
            if (t.equals("T") || t.equals("F") || t.equals("[]") || t.equals("R") || t.equals("I")) {
                return new Node(t, t);
            }
            throw new Refused(1);
        }
    }

    private static void names(Node n, Set<String> binders) {
        if (n.kind.equals("bind")) {
            binders.add(n.text);
        }
        for (Node p : n.parts) {
            names(p, binders);
        }
    }

    private static Set<String> with(Set<String> bound, String name) {
        Set<String> more = new HashSet<>(bound);
        more.add(name);
        return more;
    }

    private static void checkNames(Node n, Set<String> bound) {
        switch (n.kind) {
            case "name":
                if (!bound.contains(n.text)) {
                    throw new Refused(2);
                }
                break;
            case "fun":
                checkNames(n.part(0), with(bound, n.text));
                break;
            case "let":
                checkNames(n.part(0), bound);
                checkNames(n.part(1), with(bound, n.text));
                break;
            case "rec":
                checkNames(n.part(0), with(bound, n.text));
                checkNames(n.part(1), with(bound, n.text));
                break;
            case "case":
                checkNames(n.part(0), bound);
                for (int i = 1; i < n.parts.size(); i += 2) {
                    Set<String> more = new HashSet<>(bound);
                    names(n.part(i), more);
                    checkNames(n.part(i + 1), more);
                }
                break;
            default:
                for (Node p : n.parts) {
                    checkNames(p, bound);
                }
                break;
        }
    }

    // ---- types ----

    private static final class Type {
        final String head;
        final Type[] parts;
        final int size;

        Type(String head, Type... parts) {
            this.head = head;
            this.parts = parts;
            int sum = 1;
            for (Type p : parts) {
                sum += p.size;
            }
            if (sum > 100000) {
                throw new Refused(3);
            }
            size = sum;
        }
    }

    private static final Type I = new Type("i");
    private static final Type B = new Type("b");
    private static final Type R = new Type("r");

    private static Type list(Type t) {
        return new Type("[]", t);
    }

    private static Type arrow(Type t, Type u) {
        return new Type(">", t, u);
    }

    private static final class Scheme {
        final Set<String> all;
        final Type type;

        Scheme(Set<String> all, Type type) {
            this.all = all;
            this.type = type;
        }
    }

    private static final class Typer {
        final Map<String, Type> found = new HashMap<>();
        int made = 0;

        Type fresh() {
            made++;
            return new Type("?" + made);
        }

        Type subst(Type t) {
            if (t.head.startsWith("?")) {
                Type f = found.get(t.head);
                return f == null ? t : subst(f);
            }
            if (t.parts.length == 0) {
                return t;
            }
            Type[] parts = new Type[t.parts.length];
            for (int i = 0; i < parts.length; i++) {
                parts[i] = subst(t.parts[i]);
            }
            return new Type(t.head, parts);
        }

        void variables(Type t, Set<String> into) {
            if (t.head.startsWith("?")) {
                into.add(t.head);
            }
            for (Type p : t.parts) {
                variables(p, into);
            }
        }

        void equal(Type left, Type right) {
            Type a = subst(left);
            Type b = subst(right);
            if (a.head.equals(b.head) && a.parts.length == 0) {
                return;
            }
            if (a.head.startsWith("?")) {
                Set<String> inside = new HashSet<>();
                variables(b, inside);
                if (inside.contains(a.head)) {
                    throw new Refused(3);
                }
                found.put(a.head, b);
                return;
            }
            if (b.head.startsWith("?")) {
                equal(b, a);
                return;
            }
            if (!a.head.equals(b.head)) {
                throw new Refused(3);
            }
            for (int i = 0; i < a.parts.length; i++) {
                equal(a.parts[i], b.parts[i]);
            }
        }

        Type rename(Type t, Map<String, Type> to) {
            Type r = to.get(t.head);
            if (r != null) {
                return r;
            }
            Type[] parts = new Type[t.parts.length];
            for (int i = 0; i < parts.length; i++) {
                parts[i] = rename(t.parts[i], to);
            }
            return parts.length == 0 ? t : new Type(t.head, parts);
        }

        Scheme general(Type type, Map<String, Scheme> around) {
            Type t = subst(type);
            Set<String> all = new HashSet<>();
            variables(t, all);
            for (Scheme s : around.values()) {
                Set<String> free = new HashSet<>();
                // what a scheme quantifies is never bound by a substitution
                variables(subst(s.type), free);
                free.removeAll(s.all);
                all.removeAll(free);
            }
            return new Scheme(all, t);
        }

        Map<String, Scheme> add(Map<String, Scheme> around, String name, Scheme s) {
            Map<String, Scheme> more = new HashMap<>(around);
            more.put(name, s);
            return more;
        }

        Scheme single(Type t) {
            return new Scheme(new HashSet<>(), t);
        }

        Type infer(Node n, Map<String, Scheme> around, Map<String, Type> binders) {
            n.type = find(n, around, binders);
            return n.type;
        }

        Type find(Node n, Map<String, Scheme> around, Map<String, Type> binders) {
            switch (n.kind) {
                case "num":
                    return I;
                case "real":
                    return R;
                case "T":
                case "F":
                    return B;
                case "R":
                    return arrow(I, R);
                case "I":
                    return arrow(R, I);
                case "[]":
                    return list(fresh());
                case "any":
                    return fresh();
                case "bind":
                    binders.put(n.text, fresh());
                    return binders.get(n.text);
                case "paren":
                    return infer(n.part(0), around, binders);
                case "name": {
                    Scheme s = around.get(n.text);
                    Map<String, Type> to = new HashMap<>();
                    for (String v : s.all) {
                        to.put(v, fresh());
                    }
                    return rename(subst(s.type), to);
                }
                case "~":
                    equal(infer(n.part(0), around, binders), R);
                    return R;
                case "op": {
                    Type side = n.text.endsWith(".") ? R : I;
                    equal(infer(n.part(0), around, binders), side);
                    equal(infer(n.part(1), around, binders), side);
                    return "+-*/".indexOf(n.text.charAt(0)) >= 0 ? side : B;
                }
                case ",": {
                    Type t = infer(n.part(0), around, binders);
                    Type u = infer(n.part(1), around, binders);
                    equal(u, list(t));
                    return u;
                }
                case "apply": {
                    Type f = infer(n.part(0), around, binders);
                    Type x = infer(n.part(1), around, binders);
                    Type r = fresh();
                    equal(f, arrow(x, r));
                    return r;
                }
                case "fun": {
                    Type x = fresh();
                    return arrow(x, infer(n.part(0), add(around, n.text, single(x)), binders));
                }
                case "let": {
                    Type t = infer(n.part(0), around, binders);
                    return infer(n.part(1), add(around, n.text, general(t, around)), binders);
                }
                case "rec": {
                    Type t = fresh();
                    equal(t, infer(n.part(0), add(around, n.text, single(t)), binders));
                    return infer(n.part(1), add(around, n.text, general(t, around)), binders);
                }
                case "if": {
                    equal(infer(n.part(0), around, binders), B);
                    Type t = infer(n.part(1), around, binders);
                    equal(t, infer(n.part(2), around, binders));
                    return t;
                }
                default: {
                    Type looked = infer(n.part(0), around, binders);
                    Type result = null;
                    for (int i = 1; i < n.parts.size(); i += 2) {
                        Map<String, Type> own = new LinkedHashMap<>();
                        equal(looked, infer(n.part(i), around, own));
                        Map<String, Scheme> more = around;
                        for (Map.Entry<String, Type> e : own.entrySet()) {
                            more = add(more, e.getKey(), single(e.getValue()));
                        }
                        Type t = infer(n.part(i + 1), more, new HashMap<>());
                        if (result == null) {
                            result = t;
                        }
                        equal(result, t);
                    }
                    return result;
                }
            }
        }

        String show(Type t, Map<String, Character> letters) {
            if (t.head.startsWith("?")) {
                letters.putIfAbsent(t.head, (char) ('a' + letters.size()));
                return "" + letters.get(t.head);
            }
            if (t.head.equals("[]")) {
                return "[" + show(t.parts[0], letters) + "]";
            }
            if (t.head.equals(">")) {
                return "(" + show(t.parts[0], letters) + ">" + show(t.parts[1], letters) + ")";
            }
            return t.head;
        }

        String show(Node n) {
            return show(subst(n.type), new HashMap<>());
        }

        void lengths(Node n) {
            if (show(n).length() > 80) {
                throw new Refused(3);
            }
            for (Node p : n.parts) {
                lengths(p);
            }
        }
    }

    // ---- working out ----

    private static final class Fun {
        final Node code;
        Map<String, Object> around;

        Fun(Node code, Map<String, Object> around) {
            this.code = code;
            this.around = around;
        }
    }

    /** Stops the recursion: code 0 if the steps are used up, else with what it fails. */
    private static final class Stop extends RuntimeException {
        private static final long serialVersionUID = 1L;
        final int code;

        Stop(int code) {
            super(null, null, false, false);
            this.code = code;
        }
    }

    /** Works a whole program out, up to a number of steps. A list is a List of Objects. */
    private static final class Worker {
        final int stopAt;
        final int before;
        int steps = 0;
        int waiting = 0;

        Worker(int stopAt, int before) {
            this.stopAt = stopAt;
            this.before = before;
        }

        void step() {
            if (steps == stopAt) {
                throw new Stop(0);
            }
            if (steps == 500 || before + steps >= 1000) {
                throw new Stop(4);
            }
            steps++;
        }

        Object known(Object v) {
            if (waiting == 200) {
                throw new Stop(5);
            }
            waiting++;
            return v;
        }

        double checked(double d) {
            if (Math.abs(d) > 1e9) {
                throw new Stop(3);
            }
            return d;
        }

        Object operate(String op, Object a, Object b) {
            switch (op) {
                case "+":
                    return (Integer) a + (Integer) b;
                case "-":
                    return (Integer) a - (Integer) b;
                case "*":
                    return (Integer) a * (Integer) b;
                case "/":
                    if ((Integer) b == 0) {
                        throw new Stop(1);
                    }
                    return (int) (((Integer) a).longValue() / ((Integer) b).longValue());
                case "<":
                    return (Integer) a < (Integer) b;
                case "=":
                    return ((Integer) a).equals(b);
                case "+.":
                    return checked((Double) a + (Double) b);
                case "-.":
                    return checked((Double) a - (Double) b);
                case "*.":
                    return checked((Double) a * (Double) b);
                case "/.":
                    if ((Double) b == 0) {
                        throw new Stop(1);
                    }
                    return checked((Double) a / (Double) b);
                default:
                    return (Double) a < (Double) b;
            }
        }

        Map<String, Object> add(Map<String, Object> around, String name, Object v) {
            Map<String, Object> more = new HashMap<>(around);
            more.put(name, v);
            return more;
        }

        @SuppressWarnings("unchecked")
        boolean fits(Node p, Object v, Map<String, Object> into) {
            switch (p.kind) {
                case "any":
                    return true;
                case "bind":
                    into.put(p.text, v);
                    return true;
                case "num":
                    return v.equals(Integer.parseInt(p.text));
                case "T":
                case "F":
                    return v.equals(p.kind.equals("T"));
                case "[]":
                    return ((List<Object>) v).isEmpty();
                default: {
                    List<Object> l = (List<Object>) v;
                    return !l.isEmpty() && fits(p.part(0), l.get(0), into)
                            && fits(p.part(1), l.subList(1, l.size()), into);
                }
            }
        }

        @SuppressWarnings("unchecked")
        Object work(Node n, Map<String, Object> around) {
            switch (n.kind) {
                case "num":
                    return known(Integer.parseInt(n.text));
                case "real": {
                    String[] halves = n.text.split("\\.");
                    int thousandths = Integer.parseInt(halves[0]) * 1000
                            + Integer.parseInt((halves[1] + "00").substring(0, 3));
                    return known(thousandths / 1000.0);
                }
                case "T":
                case "F":
                    return known(n.kind.equals("T"));
                case "[]":
                    return known(new ArrayList<Object>());
                case "R":
                case "I":
                case "fun":
                    return known(new Fun(n, around));
                case "name":
                    return known(around.get(n.text));
                case "paren":
                    return work(n.part(0), around);
                case "~": {
                    Double d = (Double) work(n.part(0), around);
                    step();
                    waiting--;
                    return known(-d);
                }
                case "op": {
                    Object a = work(n.part(0), around);
                    Object b = work(n.part(1), around);
                    step();
                    waiting -= 2;
                    return known(operate(n.text, a, b));
                }
                case ",": {
                    Object a = work(n.part(0), around);
                    List<Object> b = (List<Object>) work(n.part(1), around);
                    step();
                    waiting -= 2;
                    List<Object> whole = new ArrayList<>();
                    whole.add(a);
                    whole.addAll(b);
                    return known(whole);
                }
                case "apply": {
                    Fun f = (Fun) work(n.part(0), around);
                    Object x = work(n.part(1), around);
                    step();
                    waiting -= 2;
                    if (f.code.kind.equals("R")) {
                        return known((double) (Integer) x);
                    }
                    if (f.code.kind.equals("I")) {
                        double d = (Double) x;
                        return known(d >= 2147483647.0 ? 2147483647 : d <= -2147483648.0 ? -2147483648 : (int) d);
                    }
                    return work(f.code.part(0), add(f.around, f.code.text, x));
                }
                case "let": {
                    Object v = work(n.part(0), around);
                    step();
                    waiting--;
                    return work(n.part(1), add(around, n.text, v));
                }
                case "rec": {
                    Fun f = new Fun(n.part(0), null);
                    known(f);
                    step();
                    waiting--;
                    f.around = add(around, n.text, f);
                    return work(n.part(1), f.around);
                }
                case "if": {
                    Object v = work(n.part(0), around);
                    step();
                    waiting--;
                    return work(n.part((Boolean) v ? 1 : 2), around);
                }
                default: {
                    Object v = work(n.part(0), around);
                    step();
                    for (int i = 1; i < n.parts.size(); i += 2) {
                        Map<String, Object> more = new HashMap<>();
                        if (fits(n.part(i), v, more)) {
                            waiting--;
                            Map<String, Object> all = new HashMap<>(around);
                            all.putAll(more);
                            return work(n.part(i + 1), all);
                        }
                    }
                    throw new Stop(2);
                }
            }
        }
    }

    // ---- making lines ----

    private static final class Maker {
        final Random random;
        final List<String> names = new ArrayList<>();
        final List<String> types = new ArrayList<>();
        static final String[] KINDS = {"i", "b", "r", "[i]", "(i>i)", "[r]", "([i]>i)", "[[i]]", "(r>r)", "(i>[i])"};

        Maker(Random random) {
            this.random = random;
        }

        String blank() {
            return random.nextInt(25) == 0 ? " " : "";
        }

        String aKind() {
            return KINDS[random.nextInt(random.nextInt(2) == 0 ? 4 : KINDS.length)];
        }

        String number() {
            String[] some = {"0", "1", "2", "3", "7", "10", "9999", "12", "5", "100"};
            return some[random.nextInt(some.length)];
        }

        String aName() {
            return "" + (char) ((random.nextInt(6) == 0 ? 'a' : 'f') + random.nextInt(6));
        }

        /** An expression of a type, open to be an EXPR of any form. */
        String expr(String type, int depth) {
            int pick = random.nextInt(12);
            if (depth <= 0 || pick < 4) {
                return simple(type, depth);
            }
            String name = aName();
            switch (pick) {
                case 4:
                case 5: {
                    String t = random.nextInt(4) == 0 ? "?" : aKind();
                    String first = t.equals("?") ? "\\x." + blank() + "x" : expr(t, depth - 1);
                    return "!" + name + blank() + "=" + first + ";" + under(name, t, type, depth);
                }
                case 6: {
                    String from = random.nextInt(2) == 0 ? "i" : "[i]";
                    String to = random.nextInt(2) == 0 ? type : aKind();
                    String f = "(" + from + ">" + to + ")";
                    names.add(name);
                    types.add(f);
                    String x = aName();
                    String body = x.equals(name) ? expr(to, depth - 1) : under(x, from, to, depth);
                    String rest = expr(type, depth - 1);
                    names.remove(names.size() - 1);
                    types.remove(types.size() - 1);
                    return "@" + name + "=\\" + x + "." + body + ";" + rest;
                }
                case 7:
                case 8:
                    return "?" + expr("b", depth - 1) + ":" + expr(type, depth - 1) + "|" + expr(type, depth - 1);
                case 9:
                case 10:
                    return choice(type, depth);
                default:
                    return simple(type, depth);
            }
        }

        String under(String name, String t, String type, int depth) {
            names.add(name);
            types.add(t);
            String s = expr(type, depth - 1);
            names.remove(names.size() - 1);
            types.remove(types.size() - 1);
            return s;
        }

        String choice(String type, int depth) {
            String t = random.nextInt(2) == 0 ? "[i]" : aKind();
            StringBuilder s = new StringBuilder("#" + expr(t, depth - 1) + "{");
            int branches = 1 + random.nextInt(random.nextInt(8) == 0 ? 6 : 3);
            for (int i = 0; i < branches; i++) {
                int before = names.size();
                s.append(i > 0 ? "|" : "").append(pattern(t)).append(":").append(expr(type, depth - 1));
                while (names.size() > before) {
                    names.remove(names.size() - 1);
                    types.remove(types.size() - 1);
                }
            }
            return s.append("}").toString();
        }

        String pattern(String t) {
            int pick = random.nextInt(4);
            if (pick == 0) {
                return "_";
            }
            if (pick == 1 || t.startsWith("(") || t.equals("r")) {
                String name = aName();
                names.add(name);
                types.add(t);
                return name;
            }
            if (t.equals("i")) {
                return number();
            }
            if (t.equals("b")) {
                return random.nextBoolean() ? "T" : "F";
            }
            if (pick == 2) {
                return "[]";
            }
            String item = t.substring(1, t.length() - 1);
            String first = pattern(item);
            return (item.startsWith("[") ? "(" + first + ")" : first) + "," + pattern(t);
        }

        String closed(String type, int depth) {
            String s = expr(type, depth);
            return s.length() == 1 || s.equals("[]") || s.matches("[0-9.]+") ? s : "(" + s + ")";
        }

        String some(String type) {
            List<String> fit = new ArrayList<>();
            for (int i = 0; i < names.size(); i++) {
                if (types.get(i).equals(type) || types.get(i).equals("?")) {
                    fit.add(names.get(i));
                }
            }
            return fit.isEmpty() ? null : fit.get(random.nextInt(fit.size()));
        }

        String someFunctionTo(String type, int depth) {
            for (int tries = 0; tries < 4 && !names.isEmpty(); tries++) {
                int i = random.nextInt(names.size());
                String t = types.get(i);
                if (t.equals("?")) {
                    return names.get(i) + " " + closed(type, depth - 1);
                }
                if (t.startsWith("(") && t.endsWith(">" + type + ")")) {
                    return names.get(i) + blank() + closed(t.substring(1, t.length() - type.length() - 2), depth - 1);
                }
            }
            return null;
        }

        String simple(String type, int depth) {
            String name = some(type);
            if (name != null && random.nextInt(5) < 2) {
                return name;
            }
            String call = depth > 0 ? someFunctionTo(type, depth) : null;
            if (call != null && random.nextInt(4) < 3) {
                return call;
            }
            boolean leaf = depth <= 0 || random.nextInt(3) == 0;
            switch (type) {
                case "i":
                    if (leaf) {
                        return number();
                    }
                    if (random.nextInt(6) == 0) {
                        return "I" + closed("r", depth - 1);
                    }
                    return closed("i", depth - 1) + blank() + "+-*/".charAt(random.nextInt(4)) + blank()
                            + closed("i", depth - 1);
                case "b":
                    if (leaf) {
                        return random.nextBoolean() ? "T" : "F";
                    }
                    if (random.nextInt(3) == 0) {
                        return closed("r", depth - 1) + "<." + closed("r", depth - 1);
                    }
                    return closed("i", depth - 1) + "<=".charAt(random.nextInt(2)) + closed("i", depth - 1);
                case "r":
                    if (leaf) {
                        return number() + "." + random.nextInt(1000);
                    }
                    if (random.nextInt(4) == 0) {
                        return (random.nextBoolean() ? "~" + blank() + closed("r", depth - 1) : "R" + closed("i", depth - 1));
                    }
                    return closed("r", depth - 1) + blank() + "+-*/".charAt(random.nextInt(4)) + "."
                            + closed("r", depth - 1);
                default:
                    return made(type, depth, leaf);
            }
        }

        String made(String type, int depth, boolean leaf) {
            if (type.startsWith("[")) {
                if (leaf) {
                    return "[]";
                }
                return closed(type.substring(1, type.length() - 1), depth - 1) + blank() + ","
                        + closed(type, depth - 1);
            }
            if (type.startsWith("(")) {
                int cut = type.indexOf('>');
                String x = aName();
                return "\\" + x + blank() + "." + under(x, type.substring(1, cut), type.substring(cut + 1, type.length() - 1),
                        depth);
            }
            return "[]";
        }

        static final String[] PIECES = {"\\x.", "\\f.", "!f=", "!x=", "@f=\\x.", "?", ":", "|", ";", "#", "{", "}", ",", "<",
            "=", "<.", "+", "-", "*.", "/", "/.", "+.", " ", "1", "0", "2.5", "T", "F", "x", "f", "y", "R", "I", "~", "[]", "(",
            ")", "_", "f x", "(x)", "12345", "1.2345", ".", "x x", "f f"};

        String noise() {
            StringBuilder s = new StringBuilder();
            int count = 1 + random.nextInt(14);
            for (int i = 0; i < count; i++) {
                s.append(PIECES[random.nextInt(PIECES.length)]);
            }
            return s.toString();
        }

        /** Functions alone: the types of these grow. */
        String pure(int depth, List<String> bound) {
            int pick = random.nextInt(bound.isEmpty() ? 2 : 7);
            if (depth <= 0 && !bound.isEmpty()) {
                return bound.get(random.nextInt(bound.size()));
            }
            String x = "" + (char) ('a' + random.nextInt(26));
            List<String> more = new ArrayList<>(bound);
            more.add(x);
            switch (pick) {
                case 0:
                    return "\\" + x + "." + pure(depth - 1, more);
                case 1:
                    return "!" + x + "=" + pure(depth - 1, bound) + ";" + pure(depth - 1, more);
                case 2:
                case 3:
                    return bound.get(random.nextInt(bound.size())) + "(" + pure(depth - 1, bound) + ")";
                case 4:
                    return bound.get(random.nextInt(bound.size())) + bound.get(random.nextInt(bound.size()));
                case 5:
                    return "(" + pure(depth - 1, bound) + ")," + (random.nextBoolean() ? "[]" : pure(depth - 1, bound));
                default:
                    return bound.get(random.nextInt(bound.size()));
            }
        }

        String changed(String line) {
            StringBuilder s = new StringBuilder(line);
            String all = " \\!@?#.;:|{}[](),+-*/<=~TFRIabfghx_0129";
            int pick = random.nextInt(3);
            int at = random.nextInt(s.length() + 1);
            if (pick == 0 || s.length() == 0) {
                s.insert(at, all.charAt(random.nextInt(all.length())));
            } else if (pick == 1) {
                s.deleteCharAt(Math.min(at, s.length() - 1));
            } else {
                s.setCharAt(Math.min(at, s.length() - 1), all.charAt(random.nextInt(all.length())));
            }
            return s.toString();
        }

        /** Lines that come to the edges; they are also changed a little. */
        static final String[] KNOWN = {"@f=\\x.1+f x;f 0", "@f=\\x.f x;f 0", "@f=\\x.1+(1+f(2,(@g=\\y.y;x)));f[]",
            "@f=\\x.x,x,(@g=\\y.y;fx);f1", "1,(@f=\\x.x,x,(@g=\\y.y;fx);f1)", "@f=\\x.x,(@g=\\y.y;@h=\\y.g;fx);f1",
            "@f=\\x.f(x*.x);f 9.5", "@f=\\x.x*.(1.0/.f x);f 0.0", "@f=\\x.f(x/.9.9);f 1.5", "@f=\\x.1.5/.x+.f(x/.9.9);f 1.5",
            "@f=\\n.?n<1:1|n*f(n-1);f 99", "@f=\\n.?n<1:[]|n,f(n-1);f 60", "@f=\\n.?n<1:[]|n,f(n-1);f 99",
            "@m=\\f.\\l.#l{[]:[]|h,t:f h,m f t};m(\\x.x*x)(1,2,3,[])", "@f=\\x.#x{1:f 2|2:f 3|3:x};f 1",
            "!p=\\x.\\z.z x x;p(p(p 1))", "!p=\\x.\\z.z x x;p(p(p(p(p(p(p(p 1)))))))", "\\a.\\b.\\c.\\d.\\e.\\f.\\g.\\h.\\i.\\j.\\k.\\l.\\m.\\n.1",
            "((((((((((((((((1))))))))))))))))", "(((((((((((((((1)))))))))))))))", "@f=\\x.(((((((((((((x)))))))))))));f",
            "@f=\\x.((((((((((((((x))))))))))))));f", "#[]{a,b,c,d,e,f,g,h,i,j,k,l,m,n,o:1|_:2}", "#[]{a,b,c,d,e,f,g,h,i,j,k,l,m,n,o,p:1|_:2}",
            "#[]{((((((((((((((a)))))))))))))):1}", "#[]{(((((((((((((((a))))))))))))))):1}", "#5{1:1|2:2|3:3|4:4|5:5}",
            "#5{1:1|2:2|3:3|4:4|5:5|6:6}", "1,2,3,4,5,6,7,8,9,0,1,2,3,4,5,6,7,8,9,0,1,2,3,4,5,6,7,8,[]", "~~~~~~~~~~~~~~~~~~~~~~~~~~~~~~~~~1.5",
            "\\x.xxxxxxxxxxxxxxxxxxxxxxxxxxxxxxxxxxxxxxxxx", "@f=\\x.~~~~~~~~~~~~~~~~~~~~~~~~~~~~~~~(f x);f 0", "@f=\\x.!y=f x;y;f 0",
            "@f=\\x.#f x{y:y};f 0", "@f=\\x.?f x:T|F;f 0", "@f=\\x.#x{h,t:h+f(1,2,t)|_:0};f(1,[])", "I(R 9999*.R 9999*.9.999)",
            "I(~(R(9999*9999*9999)))", "@f=\\x.f(x*x+1);f 9", "9999*9999*9999/0", "0-9999*9999*21/(0-1)", "[],[[]],[]", "([],[]),[]",
            "\\x.\\y.\\z.x z(y z)", "!i=\\x.x;(i i)(i 5),i[]", "\\f.!g=\\x.f x;g 1", "\\f.!g=f;(g 1),(g T),[]", "\\x.!y=x;y y",
            "@f=\\x.f;1", "@f=\\x.\\y.f y x;f", "#(\\x.x){f:f f}", "@f=\\x.x;f f(f 1)", "(\\x.x,x),[]", "\\x.#x{(a,b),c:a|_:1}",
            "R(9999*9999*20)/.R 2", "~(R(9999*9999*20))", "R(9999*9999*20)+.0.0", "1.5<.2.5", "1<2=T", "#1.5{1.5:1|_:2}", "1 2", "f", "T F",
            "5 .5", "5. 5", "1+ .5", "1< .5", "[ ]", "1 2 3 4 5", "\\ x . x", " 1 ", "", "   ", "@f=1;f", "@f=(\\x.x);f", "@f=\\f.f;f 1"};

        String line() {
            for (int i = 0; i < 200; i++) {
                String s;
                int pick = random.nextInt(12);
                if (pick > 9) {
                    s = KNOWN[random.nextInt(KNOWN.length)];
                    for (int k = random.nextInt(3); k > 0; k--) {
                        s = changed(s);
                    }
                } else if (pick == 0) {
                    s = noise();
                } else if (pick < 3) {
                    s = pure(2 + random.nextInt(6), new ArrayList<>());
                } else {
                    names.clear();
                    types.clear();
                    s = expr(aKind(), 1 + random.nextInt(5));
                }
                if (random.nextInt(6) == 0) {
                    s = changed(s);
                }
                if (s.length() <= 60) {
                    return s;
                }
            }
            return "1";
        }
    }

    // ---- comparing ----

    private static void due(String where, String call, Object got, Object want) {
        if (!got.equals(want)) {
            wrong++;
            if (wrong < 40) {
                System.out.println(where + ": " + call + " answered " + got + ", due is " + want);
            }
        }
    }

    private static int load(FunDesk desk) {
        try {
            return desk.load();
        } catch (IllegalArgumentException e) {
            return -1;
        } catch (NoSuchElementException e) {
            return -2;
        } catch (UnsupportedOperationException e) {
            return -3;
        }
    }

    private static final int[] tally = new int[12];

    /** Compares the value that is looked at; a list is left by top and the way down again. */
    @SuppressWarnings("unchecked")
    private static void compare(String line, FunDesk desk, Object v, List<Integer> way) {
        desk.top();
        for (int k : way) {
            desk.item(k);
        }
        int kind = v instanceof Integer ? 0 : v instanceof Boolean ? 1 : v instanceof Double ? 2 : v instanceof List ? 3 : 4;
        due(line, "value(0)", desk.value(0), kind);
        due(line, "value(1)", desk.value(1), kind == 0 ? v : kind == 1 ? (Boolean) v ? 1 : 0 : (Object) 0);
        due(line, "value(2)", desk.value(2), kind == 3 ? ((List<Object>) v).size() : 0);
        due(line, "real()", desk.real(), kind == 2 ? v : (Object) 0.0);
        if (kind == 3) {
            List<Object> items = (List<Object>) v;
            for (int k = 0; k < items.size() && k < 8; k++) {
                List<Integer> deeper = new ArrayList<>(way);
                deeper.add(k);
                compare(line, desk, items.get(k), deeper);
            }
        }
    }

    private static int works(FunDesk desk, Node tree, String line, int before, Random random) {
        int total = 0;
        for (int call = 0; call < 40; call++) {
            int n = random.nextInt(3) == 0 ? random.nextInt(4) : random.nextInt(101);
            Worker worker = new Worker(total + n, before);
            int phase = 2;
            int failure = 0;
            Object v = null;
            try {
                v = worker.work(tree, new HashMap<>());
            } catch (Stop stop) {
                phase = stop.code == 0 ? 1 : 3;
                failure = stop.code;
            }
            due(line, "run(" + n + ") after " + total, desk.run(n), worker.steps - total);
            total = worker.steps;
            due(line, "state(0)", desk.state(0), phase);
            due(line, "state(1)", desk.state(1), failure);
            due(line, "state(2)", desk.state(2), total);
            due(line, "state(3)", desk.state(3), before + total);
            if (phase == 2) {
                tally[10]++;
                compare(line, desk, v, new ArrayList<>());
            }
            if (phase != 1) {
                tally[4 + failure]++;
                due(line, "run(1) at the end", desk.run(1), -1);
                return total;
            }
        }
        return total;
    }

    private static int tries(FunDesk desk, String line, int before, Random random) {
        desk.wipe();
        for (char c : line.toCharArray()) {
            due(line, "type", desk.type(c), true);
        }
        int want = 0;
        Node tree = null;
        String shown = "";
        try {
            tree = new Parser(line).whole();
            checkNames(tree, new HashSet<>());
            Typer typer = new Typer();
            typer.infer(tree, new HashMap<>(), new HashMap<>());
            typer.lengths(tree);
            shown = typer.show(tree);
            want = shown.length();
        } catch (Refused e) {
            want = -e.kind;
        }
        tally[want < 0 ? -want : 0]++;
        due(line, "load()", load(desk), want);
        if (want < 0) {
            return 0;
        }
        StringBuilder text = new StringBuilder();
        for (int k = 0; desk.shown(k) >= 0; k++) {
            text.append((char) desk.shown(k));
        }
        due(line, "shown", text.toString(), shown);
        return works(desk, tree, line, before, random);
    }

    private static void all() {
        Random random = new Random(Long.getLong("seed", 20261119L));
        Maker maker = new Maker(random);
        FunDesk desk = new FunDesk();
        int before = 0;
        int lines = Integer.getInteger("lines", LINES);
        for (int i = 0; i < lines; i++) {
            if (i % 8 == 0 && (before > 600 || random.nextInt(4) > 0) || before >= 1000 && random.nextInt(10) == 0) {
                desk = new FunDesk();
                before = 0;
            }
            before += tries(desk, maker.line(), before, random);
        }
    }

    public static void main(String[] args) throws InterruptedException {
        Thread thread = new Thread(null, AgainstOracle::all, "all", 1L << 29);
        final Throwable[] failed = new Throwable[1];
        thread.setUncaughtExceptionHandler((t, e) -> failed[0] = e);
        thread.start();
        thread.join();
        if (failed[0] != null) {
            failed[0].printStackTrace(System.out);
            System.exit(1);
        }
        System.out.println("well " + tally[0] + ", no EXPR " + tally[1] + ", not bound " + tally[2] + ", ill typed " + tally[3]
                + "; worked out " + tally[10] + ", failed with 1 " + tally[5] + ", 2 " + tally[6] + ", 3 " + tally[7] + ", 4 "
                + tally[8] + ", 5 " + tally[9]);
        System.out.println(wrong == 0 ? "all answers are as due" : wrong + " answers are not as due");
        if (wrong != 0) {
            System.exit(1);
        }
    }
}
