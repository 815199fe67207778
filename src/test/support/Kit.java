import java.io.IOException;
import java.lang.annotation.Retention;
import java.lang.annotation.RetentionPolicy;
import java.lang.reflect.InvocationTargetException;
import java.lang.reflect.Method;
import java.nio.file.Files;
import java.nio.file.Path;
import java.util.ArrayList;
import java.util.Arrays;
import java.util.Comparator;
import java.util.List;

/** What the tests of sentences share: how they are run, what they look at, and texts for many of them. */
final class Kit {
    static final int NONE = AttributeHouse.NONE;
    static final String ISE = "IllegalStateException";
    static final String IAE = "IllegalArgumentException";
    static final String IOOBE = "IndexOutOfBoundsException";
    static final String AE = "ArithmeticException";
    static final String UOE = "UnsupportedOperationException";

    /** Numbers that are far from all that there is. */
    static final int[] FAR = {Integer.MIN_VALUE, -1000000, 1000000, Integer.MAX_VALUE};

    /** All of t's attributes are alone. */
    static final String CHAIN = "symbol r up v; symbol t down d up u;\n"
            + "top:r=t{1.d=5;0.v=1.u+1;}\nmore:t=t{1.d=0.d*2;0.u=1.u;}\nleaf:t=#{0.u=0.d-#;}";
    /** All of t's attributes are kept short, and not alone. */
    static final String PAIR = CHAIN + "pair:t=t t{1.d=0.d;2.d=0.d+1;0.u=1.u-2.u;}";
    /** Two visits; a is named in the second one, too. Its stores: a 2, b, x and y 0. */
    static final String TWICE = "symbol r up v;symbol t down a,b up x,y;"
            + "p:r=#t{1.a=#;1.b=1.x;0.v=1.y;}q:t=#{0.x=0.a+#;0.y=0.a*0.b;}";
    /** The lengths of lists come first, then their values. */
    static final String LISTS = "symbol num up val;symbol list down scale up val,len;"
            + "symbol bit down scale up val;"
            + "root:num=list list{1.scale=0;2.scale=0-2.len;0.val=1.val+2.val*100;}"
            + "more:list=list bit{1.scale=0.scale+1;2.scale=0.scale;0.val=1.val+2.val;0.len=1.len+1;}"
            + "one:list=bit{1.scale=0.scale;0.val=1.val;0.len=1;}"
            + "zero:bit={0.val=0;}lit:bit=#{0.val=if 0.scale<0 then # /0 else #*(0.scale+1);}";
    /** x / y where x and y are literals, and what an if makes of it. */
    static final String ERRORS = "symbol r up q,i,t,c;symbol n up v;"
            + "p:r=n n{0.q=1.v/2.v;0.i=if 1.v/2.v then 1 else 2;"
            + "0.t=if 2.v then 1.v/2.v else 7;0.c=(1.v/2.v<1)+-(1.v/2.v);}"
            + "n:n=#{0.v=#;}";
    static final String EIGHT = "a,b,c,d,e,f,g,h";
    /** Its one production is circular. */
    static final String CIRCULAR = "symbol a;symbol b down y up z;p:b=b{1.y=1.z;0.z=0.y;}";
    /** Its one production is crossed. */
    static final String CROSSED = "symbol a up x;symbol b down y,w up z,v;"
            + "p:a=b b{0.x=1.z;1.y=2.z;1.w=0;2.y=0;2.w=1.v;}";

    private static final Path DOCUMENT = Path.of("../shared/DOC.md");
    private static String sentence = "";
    private static int checks = 0;
    private static int wrong = 0;

    private Kit() { }

    /** The sentence of the document of which a test is: where it stands, and its words. */
    @Retention(RetentionPolicy.RUNTIME)
    @interface Of {
        String where();

        String sentence();
    }

    interface Call {
        long run();
    }

    // Running

    /** Runs all tests of a class; ends with exit code 1 if one of them fails. */
    static void runAll(Class<?> tests) {
        Method[] methods = tests.getDeclaredMethods();
        Arrays.sort(methods, Comparator.comparing(Method::getName));
        int ran = 0;
        for (Method method : methods) {
            Of of = method.getAnnotation(Of.class);
            if (of != null) {
                run(method, of);
                ran++;
            }
        }
        System.out.println(ran + " tests, " + checks + " checks, " + wrong + " wrong");
        if (wrong != 0 || ran == 0) {
            System.exit(1);
        }
    }

    private static void run(Method method, Of of) {
        sentence = of.where() + ", \"" + of.sentence() + "\" (" + method.getName() + ")";
        int before = checks;
        try {
            method.setAccessible(true);
            method.invoke(null);
        } catch (InvocationTargetException e) {
            fail("the test itself met " + e.getCause());
        } catch (IllegalAccessException e) {
            fail("the test can't be run");
        }
        if (checks == before) {
            fail("the test looks at nothing");
        }
        if (!stands(of)) {
            fail("no such sentence stands there in the document");
        }
    }

    private static void fail(String what) {
        wrong++;
        System.out.println(sentence + ": " + what);
    }

    /** Whether the document has the sentence where it is said to stand; it can't be looked at everywhere. */
    private static boolean stands(Of of) {
        if (!Files.isReadable(DOCUMENT)) {
            return true;
        }
        try {
            return plain(section(Files.readString(DOCUMENT), of.where())).contains(plain(of.sentence()));
        } catch (IOException e) {
            return true;
        }
    }

    private static String plain(String words) {
        return words.replaceAll("\\s+", " ");
    }

    private static String section(String document, String where) {
        int number = Integer.parseInt("0" + where.replaceAll("[^0-9]", ""));
        if (where.startsWith("Promise")) {
            return between(document, "## Promise " + number + ":", "\n## ");
        }
        String terms = between(document, "## Terms", "\n## ");
        if (number == 0) {
            return where.equals("Terms") ? terms : between(document, "## " + where, "\n## ");
        }
        return between(terms, "\n" + number + ". ", number == 4 ? "\nA call" : "\n" + (number + 1) + ". ");
    }

    private static String between(String text, String from, String to) {
        int first = text.indexOf(from);
        int last = text.indexOf(to, first + from.length());
        return first < 0 ? "" : text.substring(first, last < 0 ? text.length() : last);
    }

    // Looking at answers

    static void is(String what, long got, long want) {
        checks++;
        if (got != want) {
            fail(what + " answered " + got + ", due is " + want);
        }
    }

    static void is(String what, boolean got, boolean want) {
        checks++;
        if (got != want) {
            fail(what + " is " + got + ", due is " + want);
        }
    }

    static void is(String what, String got, String want) {
        checks++;
        if (!got.equals(want)) {
            fail(what + " is\n  " + got + ", due is\n  " + want);
        }
    }

    /** What a call answers, or the name of what it throws. */
    static String outcome(Call call) {
        try {
            return "" + call.run();
        } catch (RuntimeException e) {
            return e.getClass().getSimpleName();
        }
    }

    static void throwing(String what, String want, Call call) {
        is(what, outcome(call), want);
    }

    // Texts

    /** Four signs a call. Texts of more than 2048 take more than 512 calls: what is tested there holds all the same. */
    static void append(AttributeHouse x, String text) {
        for (int i = 0; i < text.length(); i += 4) {
            int signs = 0;
            for (int j = 0; j < 4 && i + j < text.length(); j++) {
                signs |= text.charAt(i + j) << 8 * j;
            }
            x.put(signs);
        }
    }

    static int readGrammar(AttributeHouse x, String text) {
        x.end(0);
        append(x, text);
        return x.grammar();
    }

    static int readTree(AttributeHouse x, String text) {
        x.end(0);
        append(x, text);
        return x.tree();
    }

    static AttributeHouse with(String grammar) {
        AttributeHouse x = new AttributeHouse();
        is("grammar() of " + grammar, readGrammar(x, grammar), NONE);
        return x;
    }

    static AttributeHouse with(String grammar, String tree) {
        AttributeHouse x = with(grammar);
        is("tree() of " + tree, readTree(x, tree), NONE);
        return x;
    }

    static AttributeHouse begun(String grammar, String tree) {
        AttributeHouse x = with(grammar, tree);
        x.begin();
        return x;
    }

    /** What grammar() answers to a text. */
    static void answers(String text, int due) {
        is("grammar() of " + text, readGrammar(new AttributeHouse(), text), due);
    }

    static void fine(String text) {
        answers(text, NONE);
    }

    /** The mark ^ stands where the fault is due. */
    static void fault(String marked) {
        is("grammar() of " + marked, readGrammar(new AttributeHouse(), marked.replace("^", "")), marked.indexOf('^'));
    }

    static void fineTree(AttributeHouse x, String text) {
        is("tree() of " + text, readTree(x, text), NONE);
    }

    static void treeFault(AttributeHouse x, String marked) {
        is("tree() of " + marked, readTree(x, marked.replace("^", "")), marked.indexOf('^'));
    }

    /** A grammar with one rule, whose expression this is, and a literal. */
    static String rule(String expression) {
        return "symbol r up v;p:r=#{0.v=" + expression + ";}";
    }

    /** What an expression comes to with literal 0: its value, or the name of what value() throws. */
    static String result(String expression) {
        AttributeHouse x = with(rule(expression), "p 0");
        return outcome(() -> x.value(0, 0));
    }

    /** A name of two letters for each number below 676. */
    static String name(int i) {
        return "" + (char) ('a' + i / 26) + (char) ('a' + i % 26);
    }

    /** So many symbols, aa ab .. , without attributes. */
    static String symbols(int n) {
        StringBuilder text = new StringBuilder();
        for (int i = 0; i < n; i++) {
            text.append("symbol ").append(name(i)).append(";");
        }
        return text.toString();
    }

    /** So many productions, aa ab .. , of a symbol, all alike. */
    static String productions(int n, String rest) {
        StringBuilder text = new StringBuilder();
        for (int i = 0; i < n; i++) {
            text.append(name(i)).append(rest);
        }
        return text.toString();
    }

    /** Of an occurrence, a rule for each of eight attributes a .. h. */
    static String eightRules(int occurrence, String expression) {
        StringBuilder text = new StringBuilder();
        for (char a = 'a'; a <= 'h'; a++) {
            text.append(occurrence).append('.').append(a).append('=').append(expression).append(';');
        }
        return text.toString();
    }

    /** As many nodes as this, one in another, of productions p (with a child) and e. */
    static String nest(int nodes) {
        return "p(".repeat(nodes - 1) + "e" + ")".repeat(nodes - 1);
    }

    // The states in which a call is refused

    static AttributeHouse fresh() {
        return new AttributeHouse();
    }

    /** Its text is one that is no grammar; it has been read. */
    static AttributeHouse afterAFault() {
        AttributeHouse x = new AttributeHouse();
        is("a fault", readGrammar(x, "symbol a;"), 9);
        return x;
    }

    static AttributeHouse afterCircular() {
        AttributeHouse x = new AttributeHouse();
        is("circular", readGrammar(x, CIRCULAR), 2000);
        return x;
    }

    static AttributeHouse afterCrossed() {
        AttributeHouse x = new AttributeHouse();
        is("crossed", readGrammar(x, CROSSED), 3000);
        return x;
    }

    static AttributeHouse[] withoutAGrammar() {
        return new AttributeHouse[] {fresh(), afterAFault(), afterCircular(), afterCrossed()};
    }

    static AttributeHouse[] withoutATree() {
        AttributeHouse faulty = with(TWICE);
        treeFault(faulty, "p 4(^p 3)");
        AttributeHouse again = begun(TWICE, "p 4(q 3)");
        is("grammar() again", readGrammar(again, TWICE), NONE);
        return new AttributeHouse[] {fresh(), afterAFault(), with(TWICE), faulty, again};
    }

    static AttributeHouse[] withoutAMachine() {
        AttributeHouse again = begun(TWICE, "p 4(q 3)");
        is("tree() again", again.tree(), NONE);
        AttributeHouse over = begun(TWICE, "p 4(q 3)");
        over.step(100);
        is("tree() when it is over", over.tree(), NONE);
        AttributeHouse newGrammar = begun(TWICE, "p 4(q 3)");
        readGrammar(newGrammar, TWICE);
        AttributeHouse newTree = begun(TWICE, "p 4(q 3)");
        readGrammar(newTree, TWICE);
        readTree(newTree, "p 4(q 3)");
        return new AttributeHouse[] {fresh(), with(TWICE), with(TWICE, "p 4(q 3)"), again, over,
            newGrammar, newTree};
    }

    interface CallOn {
        long run(AttributeHouse x);
    }

    /** Each of these calls throws IllegalStateException on each of the objects. */
    static void stateless(String what, AttributeHouse[] objects, CallOn... calls) {
        for (int i = 0; i < objects.length; i++) {
            AttributeHouse x = objects[i];
            for (CallOn call : calls) {
                throwing(what + " in state " + i, ISE, () -> call.run(x));
            }
        }
    }

    /** TWICE's machine in its second visit of node 1, with a value on the stack. */
    static AttributeHouse underWay() {
        AttributeHouse x = begun(TWICE, "p 4(q 3)");
        x.step(12);
        return x;
    }

    static long end(AttributeHouse x, int n) {
        x.end(n);
        return 0;
    }

    // Whole answers

    static void planIs(AttributeHouse x, int production, int visit, int... due) {
        for (int i = 0; i < due.length; i++) {
            is("plan(" + production + ", " + visit + ", " + i + ")", x.plan(production, visit, i), due[i]);
        }
        is("plan(" + production + ", " + visit + ") behind its end", x.plan(production, visit, due.length), NONE);
    }

    static void storesAre(String grammar, int symbol, int... due) {
        AttributeHouse x = with(grammar);
        for (int a = 0; a < due.length; a++) {
            is("store(" + symbol + ", " + a + ") of " + grammar, x.store(symbol, a), due[a]);
        }
    }

    /** Kinds and numbers by turns, from an instruction on. */
    static void codeIs(AttributeHouse x, int from, int... due) {
        for (int i = 0; i < due.length; i += 2) {
            int at = from + i / 2;
            is("kind of " + at, x.code(at, 0), due[i]);
            is("number of " + at, x.code(at, 1), due[i + 1]);
        }
    }

    /** What machine(0), machine(1), .. answer. */
    static void machineIs(AttributeHouse x, int... due) {
        for (int what = 0; what < due.length; what++) {
            is("machine(" + what + ")", x.machine(what), due[what]);
        }
    }

    /** All that an object tells of itself without being changed by it; for small grammars and trees. */
    static String picture(AttributeHouse x) {
        List<String> all = new ArrayList<>();
        see(all, "signs", () -> x.put(0));
        if (see(all, "symbols", () -> x.size(0)) && see(all, "productions", () -> x.size(1))) {
            pictureSymbols(x, all);
            pictureProductions(x, all);
        }
        if (see(all, "nodes", () -> x.count(0))) {
            pictureTree(x, all);
        }
        if (see(all, "place", () -> x.machine(0))) {
            pictureMachine(x, all);
        }
        return String.join(" ", all);
    }

    /** Notes what a call comes to: whether there is such a thing. */
    private static boolean see(List<String> all, String what, Call call) {
        String outcome = outcome(call);
        all.add(what + " " + outcome);
        return !outcome.endsWith("Exception") || outcome.equals(AE);
    }

    private static void pictureSymbols(AttributeHouse x, List<String> all) {
        int symbols = x.size(0);
        for (int s = 0; s < symbols; s++) {
            int attributes = attributes(x, s);
            all.add("visits " + x.level(s, -1));
            for (int a = 0; a < attributes; a++) {
                all.add("level " + x.level(s, a) + " store " + x.store(s, a));
                for (int b = 0; b < attributes; b++) {
                    all.add(x.depends(s, a, b) ? "on" : "off");
                }
            }
        }
    }

    private static int attributes(AttributeHouse x, int symbol) {
        int sum = 0;
        int visits = x.level(symbol, -1);
        for (int v = 1; v <= visits; v++) {
            sum += Integer.bitCount(x.visit(symbol, v));
        }
        return sum;
    }

    private static void pictureProductions(AttributeHouse x, List<String> all) {
        int productions = x.size(1);
        for (int p = 0; p < productions; p++) {
            for (int v = 1; seeStart(all, x, p, v); v++) {
                int entry = 0;
                for (int i = 0; entry != NONE; i++) {
                    entry = x.plan(p, v, i);
                    all.add("plan " + entry);
                }
            }
        }
        for (int i = 0; seeCode(all, x, i); i++) {
            all.add("of " + x.code(i, 1));
        }
    }

    private static boolean seeStart(List<String> all, AttributeHouse x, int production, int visit) {
        return see(all, "start", () -> x.start(production, visit));
    }

    private static boolean seeCode(List<String> all, AttributeHouse x, int i) {
        return see(all, "code", () -> x.code(i, 0));
    }

    private static boolean seeValue(List<String> all, AttributeHouse x, int n, int a) {
        return see(all, "value", () -> x.value(n, a));
    }

    private static void pictureTree(AttributeHouse x, List<String> all) {
        for (int what = 1; what <= 6; what++) {
            all.add("count " + x.count(what));
        }
        int nodes = x.count(0);
        for (int n = 0; n < nodes; n++) {
            for (int what = 0; what < 4; what++) {
                all.add("node " + x.node(n, what));
            }
            for (int a = 0; seeValue(all, x, n, a); a++) {
                all.add("of " + n);
            }
        }
    }

    private static void pictureMachine(AttributeHouse x, List<String> all) {
        for (int what = 1; what <= 5; what++) {
            all.add("machine " + x.machine(what));
        }
        for (int i = 0; i < x.count(6); i++) {
            int k = i;
            see(all, "alone", () -> x.alone(k));
        }
        for (int i = 0; i < x.machine(2); i++) {
            int k = i;
            see(all, "top", () -> x.top(k));
        }
        for (int i = 0; i < x.count(0); i++) {
            int n = i;
            int attributes = attributes(x, x.node(n, 3));
            for (int j = 0; j < attributes; j++) {
                int a = j;
                see(all, "held", () -> x.held(n, a));
            }
        }
    }
}
