import java.lang.reflect.Constructor;
import java.lang.reflect.Field;
import java.lang.reflect.Method;
import java.lang.reflect.Modifier;
import java.util.Arrays;
import java.util.NoSuchElementException;
import java.util.TreeSet;

/** Each promise of the document, and the face: ordinary inputs, the edges that are named, wrong inputs. */
public final class Promises {
    private static int wrong = 0;

    private static void due(String what, Object got, Object want) {
        if (!got.equals(want)) {
            wrong++;
            System.out.println(what + " answered " + got + ", due is " + want);
        }
    }

    // ---- helpers: an exception is answered as a word ----

    private static boolean typed(FunDesk desk, String line) {
        boolean all = true;
        for (char c : line.toCharArray()) {
            all &= desk.type(c);
        }
        return all;
    }

    private static String load(FunDesk desk) {
        try {
            return "" + desk.load();
        } catch (IllegalArgumentException e) {
            return "no EXPR";
        } catch (NoSuchElementException e) {
            return "not bound";
        } catch (UnsupportedOperationException e) {
            return "ill typed";
        }
    }

    private static String shown(FunDesk desk) {
        StringBuilder text = new StringBuilder();
        for (int k = 0; desk.shown(k) != -1; k++) {
            text.append((char) desk.shown(k));
        }
        return text.toString();
    }

    private static String value(FunDesk desk, int what) {
        try {
            return "" + desk.value(what);
        } catch (IllegalStateException e) {
            return "nothing";
        } catch (IndexOutOfBoundsException e) {
            return "out of bounds";
        }
    }

    private static String real(FunDesk desk) {
        try {
            return "" + desk.real();
        } catch (IllegalStateException e) {
            return "nothing";
        }
    }

    private static String item(FunDesk desk, int k) {
        try {
            desk.item(k);
            return "done";
        } catch (IllegalStateException e) {
            return "nothing";
        } catch (IndexOutOfBoundsException e) {
            return "out of bounds";
        }
    }

    private static String top(FunDesk desk) {
        try {
            desk.top();
            return "done";
        } catch (IllegalStateException e) {
            return "nothing";
        }
    }

    /** The type of a line as it is shown, or why it is refused. */
    private static String typeOf(String line) {
        FunDesk desk = new FunDesk();
        if (!typed(desk, line)) {
            return "not typed";
        }
        String length = load(desk);
        if (!Character.isDigit(length.charAt(0))) {
            return length;
        }
        String text = shown(desk);
        due("the length of " + line, length, "" + text.length());
        return text;
    }

    private static void type(String line, String want) {
        due("the type of " + line, typeOf(line), want);
    }

    private static FunDesk ran(String line) {
        FunDesk desk = new FunDesk();
        typed(desk, line);
        String answer = load(desk);
        if (!Character.isDigit(answer.charAt(0))) {
            due("load of " + line, answer, "a length");
        }
        for (int i = 0; i < 6; i++) {
            desk.run(100);
        }
        return desk;
    }

    private static String written(FunDesk desk, int... way) {
        desk.top();
        for (int k : way) {
            desk.item(k);
        }
        int kind = desk.value(0);
        if (kind == 0) {
            return "" + desk.value(1);
        }
        if (kind == 1) {
            return desk.value(1) == 1 ? "T" : "F";
        }
        if (kind == 2) {
            return "" + desk.real();
        }
        if (kind == 4) {
            return "function";
        }
        StringBuilder text = new StringBuilder("[");
        int count = desk.value(2);
        for (int k = 0; k < count; k++) {
            int[] deeper = Arrays.copyOf(way, way.length + 1);
            deeper[way.length] = k;
            text.append(k > 0 ? "," : "").append(written(desk, deeper));
        }
        desk.top();
        return text.append("]").toString();
    }

    /** What a line is worth, or with what it fails, and after how many steps. */
    private static void worth(String line, String want, int steps) {
        FunDesk desk = ran(line);
        String got = desk.state(0) == 2 ? written(desk) : "fails " + desk.state(1);
        due("what is worth " + line, got, want);
        due("the steps of " + line, desk.state(2), steps);
    }

    private static String times(String s, int count) {
        return s.repeat(count);
    }

    // ---- the face ----

    private static void face() {
        TreeSet<String> seen = new TreeSet<>();
        for (Method m : FunDesk.class.getDeclaredMethods()) {
            if (!Modifier.isPrivate(m.getModifiers())) {
                seen.add(Modifier.toString(m.getModifiers()) + " " + m.getReturnType() + " " + m.getName()
                        + Arrays.toString(m.getParameterTypes()));
            }
        }
        for (Constructor<?> c : FunDesk.class.getDeclaredConstructors()) {
            seen.add(Modifier.toString(c.getModifiers()) + " new" + Arrays.toString(c.getParameterTypes()));
        }
        for (Field f : FunDesk.class.getDeclaredFields()) {
            if (!Modifier.isPrivate(f.getModifiers())) {
                seen.add("field " + f.getName());
            }
        }
        TreeSet<String> face = new TreeSet<>(Arrays.asList("public new[]", "public boolean type[char]", "public void wipe[]",
                "public int load[]", "public int shown[int]", "public int run[int]", "public int state[int]",
                "public int value[int]", "public double real[]", "public void item[int]", "public void top[]"));
        due("the face", seen, face);
        due("the class", Modifier.toString(FunDesk.class.getModifiers()), "public final");
        for (Class<?> inner : FunDesk.class.getDeclaredClasses()) {
            due("public or protected " + inner, inner.getModifiers() & (Modifier.PUBLIC | Modifier.PROTECTED), 0);
            due("static " + inner, Modifier.isStatic(inner.getModifiers()), true);
        }
    }

    // ---- promise 1 to 3 ----

    private static void newObject() {
        FunDesk desk = new FunDesk();
        due("state(0) of a new object", desk.state(0), 0);
        for (int what = 1; what < 4; what++) {
            due("state of a new object", desk.state(what), 0);
        }
        due("shown(0) of a new object", desk.shown(0), -1);
        due("run(0) of a new object", desk.run(0), -1);
        due("run(5) of a new object", desk.run(5), -1);
        due("value of a new object", value(desk, 0), "nothing");
        due("value of another what", value(desk, 7), "nothing");
        due("real of a new object", real(desk), "nothing");
        due("item of a new object", item(desk, 0), "nothing");
        due("top of a new object", top(desk), "nothing");
        due("load of a new object", load(desk), "no EXPR");
    }

    private static void type() {
        FunDesk desk = new FunDesk();
        for (int c : new int[] {0, 9, 10, 31, 127, 128, 160, 255, 256, 65535, 8364}) {
            due("type of " + c, desk.type((char) c), false);
        }
        for (int i = 0; i < 59; i++) {
            due("type of a blank", desk.type(' '), true);
        }
        due("type of a wrong one", desk.type((char) 31), false);
        due("the sixtieth", desk.type('7'), true);
        due("the sixty-first", desk.type('8'), false);
        due("a wrong sixty-first", desk.type((char) 127), false);
        due("load of sixty", load(desk), "1");
        desk.run(0);
        due("what was typed", desk.value(1), 7);
        for (int c = 32; c < 127; c++) {
            if (c == 80) {
                desk.wipe();
            }
            due("type of " + c, desk.type((char) c), true);
        }
    }

    private static void wipe() {
        FunDesk desk = new FunDesk();
        desk.wipe();
        typed(desk, "(((");
        desk.wipe();
        typed(desk, "12");
        due("load after wipe", load(desk), "1");
        desk.run(1);
        typed(desk, "3");
        desk.wipe();
        due("the value after wipe", desk.value(1), 12);
        due("load of nothing", load(desk), "no EXPR");
        typed(desk, times(" ", 60));
        desk.wipe();
        due("sixty after wipe", typed(desk, times("(", 60)), true);
    }

    // ---- promise 4: reading ----

    private static void reading() {
        for (String line : new String[] {"", " ", "(", ")", "()", "1+", "+1", "-1", "1++2", "1 + + 2", "1<2<3", "1=2=3", "1<.2<3",
            "\\x", "\\x.", "\\.x", "\\X.x", "\\xy.x", "x.", "!a=1", "!a=1;", "!a;1", "!1=1;1", "@f=1;f", "@f=(\\x.x);f", "@f=\\x.x",
            "?T:1", "?T", "?T:1|", "?T|1:2", "#1", "#1{", "#1{}", "#1{1}", "#1{1:}", "#1{1:2", "#1{1:2|}", "#1{1:2}3", "#1{:2}",
            "#1{1.5:2}", "#1{~1:2}", "#1{1+1:2}", "#1{R:2}", "#1{(1:2}", "#1{1,:2}", "#1{1 1:2}", "#1{_a:2}", "1,", ",1",
            "1,\\x.x", "1+\\x.x", "f !a=1;a", "T|F", "1;", "12345", "1.5.5", "1.2345", "12345.5", "1.", ".5", "1 .5", "1. 5",
            "[ ]", "[", "]", "[1]", "+. ", "1.5+ .1.5", "1.5- .1.5", "1.5* .1.5", "1.5/ .1.5", "1.5< .2.5", "1=.1", "1.5=.1.5",
            "1..5", "A", "TRUE", "_", "1_", "$", "1>2", "~", "1~", "\"", "{}", "#1{12345:1}", "#1{a,a:1}", "#1{(a,b),a:1}",
            "#1{?T:1|2}", "#1,[]{a,b:a|_:0}+1", "(\\a.1)\\x.x", "?T:?F:1|2", "#1{1:?T:2|_:4}", "x y)"}) {
            type(line, "no EXPR");
        }
        type("1  2", "ill typed");
        type("1234 5", "ill typed");
        type("  1  ", "i");
        type("\\ x . x", "(a>a)");
        type(" ! a = 1 ; a ", "i");
        type(" @ f = \\ x . f x ; f ", "(a>b)");
        type(" ? T : 1 | 2 ", "i");
        type(" # [] { [] : 1 | ( a ) , _ : a } ", "i");
        type(" ( 1.5 +. ~ 2.500 ) <. 1.5 ", "b");
        type("0001,[]", "[i]");
        type("#1{0001:T|9999:F}", "b");
        type("9999.999", "r");
        type("#1{1:?T:2|3|_:4}", "i");
        type("?T:?F:1|2|3", "i");
        type("#?T:1|2{1:T|_:F}", "b");
        type("!a=1=1;a", "b");
        type("\\x.1.5", "(a>r)");
        type("~~1.5", "r");
        type("#1{1:1|2:2|3:3|4:4|5:5}", "i");
        type("#1{1:1|2:2|3:3|4:4|5:5|6:6}", "no EXPR");
    }

    private static void levels() {
        type(times("(", 15) + "1" + times(")", 15), "i");
        type(times("(", 16) + "1" + times(")", 16), "no EXPR");
        type(times("(", 15) + "x" + times(")", 15), "not bound");
        type(times("(", 16) + "x" + times(")", 16), "no EXPR");
        type("\\x." + times("\\x.", 14) + "1", "(a>(b>(c>(d>(e>(f>(g>(h>(i>(j>(k>(l>(m>(n>(o>i" + times(")", 15));
        type("\\x." + times("\\x.", 15) + "1", "no EXPR");
        type(times("!a=", 11) + "1" + times(";1", 11), "i");
        type("@f=\\x." + times("(", 13) + "1" + times(")", 13) + ";f", "(a>i)");
        type("@f=\\x." + times("(", 14) + "1" + times(")", 14) + ";f", "no EXPR");
        type("#[]{a,b,c,d,e,f,g,h,i,j,k,l,m,n,o:1|_:2}", "i");
        type("#[]{a,b,c,d,e,f,g,h,i,j,k,l,m,n,o,p:1|_:2}", "no EXPR");
        type("#1{" + times("(", 14) + "a" + times(")", 14) + ":1}", "i");
        type("#1{" + times("(", 15) + "a" + times(")", 15) + ":1}", "no EXPR");
        type(times("1,", 29) + "[]", "[i]");
        type(times("~", 57) + "1.5", "r");
        type(times("1+", 29) + "1", "i");
        type("\\f." + times("f", 57), "ill typed");
    }

    private static void binding() {
        for (String line : new String[] {"x", "1+x", "T+x", "!a=a;1", "!a=1;b", "(\\x.x)x", "#1{a:1|_:a}", "@f=\\x.y;f", "#a{a:a}",
            "?T:1|(!a=1;a)+a", "@f=\\x.x;x", "1 2 x", "(#1{a:1})a"}) {
            type(line, "not bound");
        }
        type("\\x.\\x.x", "(a>(b>b))");
        type("!x=1;!x=T;x", "b");
        type("!x=1;!x=x+1;x", "i");
        type("@f=\\f.f+1;f 1", "i");
        type("#1,[]{a,b:#b{a,c:a|_:a}|_:0}", "i");
    }

    private static void types() {
        String[][] all = {{"1", "i"}, {"1.5", "r"}, {"T", "b"}, {"F", "b"}, {"[]", "[a]"}, {"R", "(i>r)"}, {"I", "(r>i)"},
            {"1,2,[]", "[i]"}, {"(1,[]),[]", "[[i]]"}, {"\\x.x", "(a>a)"}, {"\\x.\\y.x", "(a>(b>a))"},
            {"\\x.\\y.\\z.x z(y z)", "((a>(b>c))>((a>b)>(a>c)))"}, {"1<2", "b"}, {"1=2", "b"}, {"1.5<.2.5", "b"},
            {"1.5+.2.5", "r"}, {"1-2*3/4", "i"}, {"1.5-.2.5*.3.5/.4.5", "r"}, {"~1.5", "r"}, {"R 1", "r"}, {"I 1.5", "i"},
            {"?1<2:\\x.x|\\y.y+1", "(i>i)"}, {"!i=\\x.x;(i i)(i 5),i[]", "[i]"}, {"!f=\\x.x;f f[]", "[a]"},
            {"(\\f.(f 1),f T)", "ill typed"}, {"\\x.!y=x;y y", "ill typed"}, {"\\f.!g=\\x.f x;g", "((a>b)>(a>b))"},
            {"\\x.!y=\\z.x;(y 1),(y T),[]", "(a>[a])"}, {"@f=\\x.x;(f 1)=(?f T:1|2)", "b"}, {"@f=\\x.f 1;f", "(i>a)"},
            {"@f=\\x.(f 1)+(f T);f", "ill typed"}, {"#(\\x.x){f:(f 1)=(f 2)}", "b"}, {"#(\\x.x){f:f f}", "ill typed"},
            {"\\x.#x{1:T|_:F}", "(i>b)"}, {"\\x.#x{T:1|F:2}", "(b>i)"}, {"\\x.#x{h,t:h|_:1}", "([i]>i)"},
            {"\\x.#x{(a,b),c:a|_:1}", "([[i]]>i)"}, {"\\x.#x{_:1}", "(a>i)"}, {"#1{T:1}", "ill typed"}, {"#1{1:1|2:T}", "ill typed"},
            {"#1{1:1|T:1}", "ill typed"}, {"#1,[]{1,T:1}", "ill typed"}, {"1+T", "ill typed"}, {"1+1.5", "ill typed"},
            {"1+.2", "ill typed"}, {"T=T", "ill typed"}, {"1.5=1.5", "ill typed"}, {"1.5<2.5", "ill typed"}, {"1<.2", "ill typed"},
            {"~1", "ill typed"}, {"R 1.5", "ill typed"}, {"I 1", "ill typed"}, {"?1:2|3", "ill typed"}, {"?T:2|F", "ill typed"},
            {"1,2", "ill typed"}, {"1,T,[]", "ill typed"}, {"[],[]", "[[a]]"}, {"\\x.x x", "ill typed"}, {"!a=1 2;3", "ill typed"},
            {"@m=\\f.\\l.#l{[]:[]|h,t:f h,m f t};m", "((a>b)>([a]>[b]))"}, {"!p=\\x.\\z.z x x;p(p 1)", "((((i>(i>a))>a)>(((i>(i>a))>a)>b))>b)"}};
        for (String[] pair : all) {
            type(pair[0], pair[1]);
        }
    }

    /** Eighty characters are shown, 81 are not; the parts count as the whole does. */
    private static void longTypes() {
        // (a>(b>..(n>[[..i..]])): 14 functions take 56 characters, a list two more each
        String functions = times("\\x.", 14);
        type(functions + "1", "(a>(b>(c>(d>(e>(f>(g>(h>(i>(j>(k>(l>(m>(n>i" + times(")", 14));
        // the parameter applied to 18 arguments: 20 leaves and 19 arrows make 77 characters, one more 81
        type("\\f.f 1 1 1 1 1 1 1 1 1 1 1 1 1 1 1 1 1 1", "((i>(i>(i>(i>(i>(i>(i>(i>(i>(i>(i>(i>(i>(i>(i>(i>(i>(i>a"
                + times(")", 18) + ">a)");
        type("\\f.f 1 1 1 1 1 1 1 1 1 1 1 1 1 1 1 1 1 1 1", "ill typed");
        // a list among them: 79 characters; with a second one that is 81
        type("\\f.f[]1 1 1 1 1 1 1 1 1 1 1 1 1 1 1 1 1", "(([a]>(i>(i>(i>(i>(i>(i>(i>(i>(i>(i>(i>(i>(i>(i>(i>(i>(i>b"
                + times(")", 18) + ">b)");
        type("\\f.f[][]1 1 1 1 1 1 1 1 1 1 1 1 1 1 1 1", "ill typed");
        // the whole is i, a part of it is too long
        type("!f=\\f.f 1 1 1 1 1 1 1 1 1 1 1 1 1 1 1 1 1 1 1;1", "ill typed");
        type("!f=\\f.f 1 1 1 1 1 1 1 1 1 1 1 1 1 1 1 1 1 1;1", "i");
        type("!p=\\x.\\z.z x x;p(p(p 1))", "ill typed");
        type("!p=\\x.\\z.z x x;p(p(p(p(p(p(p(p(p(p(p(p(p(p 1)))))))))))))", "ill typed");
        type("#[]{f,g:f 1 1 1 1 1 1 1 1 1 1 1 1 1 1 1 1 1 1|_:1}", "i");
        type("#[]{f,g:f 1 1 1 1 1 1 1 1 1 1 1 1 1 1 1 1 1 1 1|_:1}", "i");
        type("#[]{f,g:f 1 1 1 1 1 1 1 1 1 1 1 1 1 1 1 1 1 1 1 1|_:1}", "ill typed");
    }

    private static void loading() {
        FunDesk desk = new FunDesk();
        typed(desk, "\\x.x");
        due("load", load(desk), "5");
        due("state(0) after load", desk.state(0), 1);
        due("state(2) after load", desk.state(2), 0);
        due("load of the empty line", load(desk), "no EXPR");
        due("run(0)", desk.run(0), 0);
        typed(desk, "1+");
        due("load of half a line", load(desk), "no EXPR");
        typed(desk, "T");
        due("the line stays", load(desk), "ill typed");
        due("the type stays", shown(desk), "(a>a)");
        due("the program stays", desk.state(0), 2);
        due("the value stays", desk.value(0), 4);
        typed(desk, "+x");
        due("what is first", load(desk), "not bound");
        typed(desk, "(");
        due("what comes before", load(desk), "no EXPR");
        desk.wipe();
        typed(desk, "1+2");
        due("load", load(desk), "1");
        due("state(0) after load", desk.state(0), 1);
        due("value after load", value(desk, 0), "nothing");
        due("top after load", top(desk), "nothing");
        due("run", desk.run(100), 1);
        typed(desk, "1/0");
        load(desk);
        due("run", desk.run(100), 1);
        due("state(1)", desk.state(1), 1);
        typed(desk, "1");
        load(desk);
        due("state(1) after load", desk.state(1), 0);
        due("state(3) after load", desk.state(3), 2);
    }

    // ---- promise 5 ----

    private static void shown() {
        FunDesk desk = new FunDesk();
        typed(desk, "\\x.1.5");
        load(desk);
        due("shown", shown(desk), "(a>r)");
        for (int k : new int[] {-1, 5, 6, 79, 80, 81, Integer.MAX_VALUE, Integer.MIN_VALUE}) {
            due("shown(" + k + ")", desk.shown(k), -1);
        }
        typed(desk, "1");
        load(desk);
        due("shown(0)", desk.shown(0), (int) 'i');
        due("shown(1)", desk.shown(1), -1);
    }

    // ---- promise 6 and the working out ----

    private static void run() {
        FunDesk desk = new FunDesk();
        typed(desk, "1+2*3");
        load(desk);
        for (int n : new int[] {-1, 101, Integer.MAX_VALUE, Integer.MIN_VALUE}) {
            due("run(" + n + ")", desk.run(n), -1);
        }
        due("state(0)", desk.state(0), 1);
        due("run(0)", desk.run(0), 0);
        due("run(0) again", desk.run(0), 0);
        due("value under way", value(desk, 0), "nothing");
        due("run(1)", desk.run(1), 1);
        due("state(0) in between", desk.state(0), 1);
        due("run(1)", desk.run(1), 1);
        due("state(0) at the end", desk.state(0), 2);
        due("run(1) at the end", desk.run(1), -1);
        due("run(0) at the end", desk.run(0), -1);
        typed(desk, "T");
        load(desk);
        due("state(0) before what needs no step", desk.state(0), 1);
        due("run(0) of what needs no step", desk.run(0), 0);
        due("state(0)", desk.state(0), 2);
        typed(desk, "1/0+2");
        load(desk);
        due("run of what fails", desk.run(100), 1);
        due("state(0)", desk.state(0), 3);
        due("run of what has failed", desk.run(0), -1);
        due("value of what has failed", value(desk, 0), "nothing");
    }

    private static void workingOut() {
        worth("7", "7", 0);
        worth("\\x.1/0", "function", 0);
        worth("R", "function", 0);
        worth("7/2,(0-7)/2,7/(0-2),[]", "[3,-3,-3]", 8);
        worth("10-2-3", "5", 2);
        worth("16/4/2*3", "6", 3);
        worth("9999*9999*9999", "" + 9999 * 9999 * 9999, 2);
        worth("(0-8192*4*256*256)/(0-1)", "-2147483648", 6);
        worth("(1<2),(2<1),(1=1),(1=2),[]", "[T,F,T,F]", 8);
        worth("(1.5<.2.5),(1.5<.1.5),[]", "[T,F]", 4);
        worth("1.25,1.5,9999.999,0.001,[]", "[1.25,1.5,9999.999,0.001]", 4);
        worth("~1.5+.1.0", "-0.5", 2);
        worth("2.5-.1.0,(1.5*.2.0),(3.0/.2.0),[]", "[1.5,3.0,1.5]", 6);
        worth("1/0", "fails 1", 1);
        worth("1.5/.0.0", "fails 1", 1);
        worth("1.5/.~0.0", "fails 1", 2);
        worth("R 1000*.R(1000*1000)", "1.0E9", 4);
        worth("R 1000*.R(1000*1000)+.0.001", "fails 3", 5);
        worth("~(R 1000*.R(1000*1000))", "-1.0E9", 5);
        worth("~(R 1000*.R(1000*1000))-.0.001", "fails 3", 6);
        worth("~(R(9999*9999*20))", "-1.99960002E9", 4);
        worth("R(9999*9999*20)*.1.0", "fails 3", 4);
        worth("I 2.999,I(~2.999),I 0.0,[]", "[2,-2,0]", 7);
        worth("I(R(9999*9999*20)),[]", "[" + 9999 * 9999 * 20 + "]", 5);
        worth("!a=1+1;a+a", "4", 3);
        worth("?1<2:1|1/0", "1", 2);
        worth("?2<1:1/0|2", "2", 2);
        worth("(\\x.x+x)3", "6", 2);
        worth("(\\x.\\y.x-y)3 1", "2", 3);
        worth("!x=1;!f=\\y.x;!x=2;f 0", "1", 4);
        worth("@f=\\n.?n<1:1|n*f(n-1);f 5", "120", 1 + 5 * 5 + 3);
        worth("@m=\\f.\\l.#l{[]:[]|h,t:f h,m f t};m(\\x.x*x)(1,2,3,[])", "[1,4,9]", 25);
        worth("(1/0)+(#1{2:3})", "fails 1", 1);
        worth("(\\x.1)(1/0)", "fails 1", 1);
        worth("(#1{2:\\x.x})(1/0)", "fails 2", 1);
        worth("!f=\\x.x;!y=f;y f 1", "1", 4);
    }

    private static void patterns() {
        worth("#3{1:1|2:2}", "fails 2", 1);
        worth("#3{1:1|3:2|_:4}", "2", 1);
        worth("#T{F:1|T:2}", "2", 1);
        worth("#[]{a,b:1|[]:2}", "2", 1);
        worth("#1,[]{[]:1|a,b:a}", "1", 2);
        worth("#1,2,3,[]{a,b,c:c|_:[]}", "[3]", 4);
        worth("#1,2,[]{a,b,c,d:1|a,2,[]:a+9|_:0}", "10", 4);
        worth("#(1,2,[]),[]{(a,b),c:b|_:[]}", "[2]", 4);
        worth("#(\\x.x){f:f 1}", "1", 2);
        worth("#1.5{x:x+.x}", "3.0", 2);
        worth("(#1,[]{a,b:a|_:0})+1", "2", 3);
        worth("!a=5;(#1,[]{a,_:a|_:0})+a", "6", 4);
        worth("#5{a:(#6{a:a})+a}", "11", 3);
    }

    private static void limits() {
        worth("@f=\\x.f x;f 0", "fails 4", 500);
        worth("@f=\\x.1+f x;f 0", "fails 5", 200);
        worth("@f=\\x.?f x:T|F;f 0", "fails 4", 500);
        worth("@f=\\n.?n<1:[]|n,f(n-1);f 60", written(60), 1 + 61 * 3 + 60 * 2);
        atRec();
        FunDesk desk = new FunDesk();
        for (int round = 0; round < 2; round++) {
            typed(desk, "@f=\\x.f x;f 0");
            load(desk);
            for (int i = 0; i < 5; i++) {
                due("run(100)", desk.run(100), 100);
            }
            due("state(0) after 500", desk.state(0), 1);
            due("run(0) after 500", desk.run(0), 0);
            due("state(0) after run(0)", desk.state(0), 1);
            if (round == 0) {
                due("run(1) after 500", desk.run(1), 0);
                due("state(1)", desk.state(1), 4);
            }
            due("state(2)", desk.state(2), 500);
            due("state(3)", desk.state(3), 500 * (round + 1));
        }
        typed(desk, "1+1");
        load(desk);
        due("run(0) after 1000", desk.run(0), 0);
        due("state(0) after 1000", desk.state(0), 1);
        due("run(5) after 1000", desk.run(5), 0);
        due("state(1) after 1000", desk.state(1), 4);
        due("state(2) after 1000", desk.state(2), 0);
        typed(desk, "7");
        load(desk);
        due("run(5) of what needs no step", desk.run(5), 0);
        due("its value", desk.value(1), 7);
    }

    /** What a REC binds is known ahead of its step: it waits, or is one too many. */
    private static void atRec() {
        worth("@f=\\x.1+(1+f(2,(@g=\\y.y;x)));f[]", "fails 5", 2 + 3 * 98);
        worth("@f=\\x.x,x,(@g=\\y.y;fx);f1", "fails 5", 2 + 2 * 99);
        // with one more ahead 199 wait, the function is the last that may, and its step takes it
        worth("1,(@f=\\x.x,x,(@g=\\y.y;fx);f1)", "fails 5", 2 + 2 * 98 + 1);
        worth("@f=\\n.?n<1:n|n*(@g=\\y.f(y-1);g n);f 5", "0", 2 + 5 * 7 + 2);
        worth("!x=1;@f=\\y.x+y;!x=5;f x", "6", 5);
        FunDesk desk = new FunDesk();
        typed(desk, "@f=\\x.x;f 1");
        load(desk);
        due("run(0) ahead of a REC", desk.run(0), 0);
        due("state(0) ahead of a REC", desk.state(0), 1);
        due("run(1) of a REC", desk.run(1), 1);
        due("run(5) behind a REC", desk.run(5), 1);
        due("the value", desk.value(1), 1);
        desk = new FunDesk();
        for (int steps : new int[] {500, 300, 199}) {
            typed(desk, steps == 199 ? "@f=\\x.x,x,(@g=\\y.y;fx);f1" : "@f=\\x.f x;f 0");
            load(desk);
            for (int left = steps; left > 0; left -= 100) {
                desk.run(Math.min(left, 100));
            }
        }
        due("state(0) after 199", desk.state(0), 1);
        due("the last of 1000", desk.run(1), 1);
        due("state(0) at both limits", desk.state(0), 3);
        due("what needs no step comes first", desk.state(1), 5);
        due("state(2) at both limits", desk.state(2), 200);
        due("state(3) at both limits", desk.state(3), 1000);
    }

    private static String written(int from) {
        StringBuilder text = new StringBuilder("[");
        for (int i = from; i > 0; i--) {
            text.append(i).append(i > 1 ? "," : "]");
        }
        return text.toString();
    }

    // ---- promise 7 to 11 ----

    private static void state() {
        FunDesk desk = ran("1+1");
        due("state(0)", desk.state(0), 2);
        due("state(1)", desk.state(1), 0);
        due("state(2)", desk.state(2), 1);
        due("state(3)", desk.state(3), 1);
        for (int what : new int[] {-1, 4, 100, Integer.MIN_VALUE, Integer.MAX_VALUE}) {
            due("state(" + what + ")", desk.state(what), -1);
        }
    }

    private static void values() {
        String[] lines = {"5", "T", "F", "2.5", "[]", "7,8,9,[]", "\\x.x", "R", "@f=\\x.f;1"};
        int[][] want = {{0, 5, 0}, {1, 1, 0}, {1, 0, 0}, {2, 0, 0}, {3, 0, 0}, {3, 0, 3}, {4, 0, 0}, {4, 0, 0}, {0, 1, 0}};
        for (int i = 0; i < lines.length - 1; i++) {
            FunDesk desk = ran(lines[i]);
            for (int what = 0; what < 3; what++) {
                due("value(" + what + ") of " + lines[i], desk.value(what), want[i][what]);
            }
            due("real() of " + lines[i], real(desk), i == 3 ? "2.5" : "0.0");
            for (int what : new int[] {-1, 3, Integer.MAX_VALUE, Integer.MIN_VALUE}) {
                due("value(" + what + ")", value(desk, what), "out of bounds");
            }
        }
    }

    private static void items() {
        FunDesk desk = ran("(1,2,[]),[],(3,[]),[]");
        due("items", desk.value(2), 3);
        for (int k : new int[] {-1, 3, Integer.MAX_VALUE, Integer.MIN_VALUE}) {
            due("item(" + k + ")", item(desk, k), "out of bounds");
        }
        due("items still", desk.value(2), 3);
        due("item(0)", item(desk, 0), "done");
        due("its items", desk.value(2), 2);
        due("item(1) of it", item(desk, 1), "done");
        due("that", desk.value(1), 2);
        due("item of a number", item(desk, 0), "out of bounds");
        due("that still", desk.value(1), 2);
        due("top", top(desk), "done");
        due("item(1)", item(desk, 1), "done");
        due("the empty one", desk.value(0), 3);
        due("item(0) of the empty one", item(desk, 0), "out of bounds");
        due("top", top(desk), "done");
        due("top again", top(desk), "done");
        due("item(2)", item(desk, 2), "done");
        due("item(0)", item(desk, 0), "done");
        due("that", desk.value(1), 3);
        FunDesk function = ran("(\\x.x),[]");
        due("item(0)", item(function, 0), "done");
        due("a function", function.value(0), 4);
        due("item of a function", item(function, 0), "out of bounds");
        FunDesk failed = ran("1/0");
        due("item of what failed", item(failed, 0), "nothing");
        due("top of what failed", top(failed), "nothing");
        due("real of what failed", real(failed), "nothing");
    }

    public static void main(String[] args) {
        face();
        newObject();
        type();
        wipe();
        reading();
        levels();
        binding();
        types();
        longTypes();
        loading();
        shown();
        run();
        workingOut();
        patterns();
        limits();
        state();
        values();
        items();
        System.out.println(wrong == 0 ? "all answers are as due" : wrong + " answers are not as due");
        if (wrong != 0) {
            System.exit(1);
        }
    }
}
