import java.lang.reflect.Method;
import java.lang.reflect.Modifier;
import java.util.ArrayList;
import java.util.Arrays;
import java.util.List;
import java.util.TreeSet;

/** At least one test for each promise of the document, with answers worked out by hand from its words. */
public final class PromiseTests {
    private static final String ISE = "IllegalStateException";
    private static final String IAE = "IllegalArgumentException";
    private static final String IOOBE = "IndexOutOfBoundsException";
    private static final String AE = "ArithmeticException";
    private static final String UOE = "UnsupportedOperationException";

    /** All of t's attributes are alone. */
    private static final String CHAIN = "symbol r up v; symbol t down d up u;\n"
            + "top:r=t{1.d=5;0.v=1.u+1;}\nmore:t=t{1.d=0.d*2;0.u=1.u;}\nleaf:t=#{0.u=0.d-#;}";
    /** All of t's attributes are kept short, and not alone. */
    private static final String PAIR = CHAIN + "pair:t=t t{1.d=0.d;2.d=0.d+1;0.u=1.u-2.u;}";
    /** Two visits; a is named in the second one, too. */
    private static final String TWICE = "symbol r up v;symbol t down a,b up x,y;"
            + "p:r=#t{1.a=#;1.b=1.x;0.v=1.y;}q:t=#{0.x=0.a+#;0.y=0.a*0.b;}";
    /** The lengths of lists come first, then their values. */
    private static final String LISTS = "symbol num up val;symbol list down scale up val,len;"
            + "symbol bit down scale up val;"
            + "root:num=list list{1.scale=0;2.scale=0-2.len;0.val=1.val+2.val*100;}"
            + "more:list=list bit{1.scale=0.scale+1;2.scale=0.scale;0.val=1.val+2.val;0.len=1.len+1;}"
            + "one:list=bit{1.scale=0.scale;0.val=1.val;0.len=1;}"
            + "zero:bit={0.val=0;}lit:bit=#{0.val=if 0.scale<0 then # /0 else #*(0.scale+1);}";
    /** x / y where x and y are literals, and what an if makes of it. */
    private static final String ERRORS = "symbol r up q,i,t,c;symbol n up v;"
            + "p:r=n n{0.q=1.v/2.v;0.i=if 1.v/2.v then 1 else 2;"
            + "0.t=if 2.v then 1.v/2.v else 7;0.c=(1.v/2.v<1)+-(1.v/2.v);}"
            + "n:n=#{0.v=#;}";

    private static int wrong = 0;
    private static int checks = 0;

    private interface Call {
        long run();
    }

    public static void main(String[] args) {
        face();
        newObject();
        put();
        end();
        grammarTokens();
        grammarFaults();
        grammarLimits();
        grammarOrder();
        grammarState();
        sizes();
        depends();
        levels();
        plans();
        stores();
        trees();
        treeFaults();
        counts();
        nodes();
        values();
        arithmetic();
        changes();
        visits();
        codes();
        choiceCode();
        starts();
        begins();
        steps();
        machines();
        errorsInMachine();
        alone();
        top();
        held();
        System.out.println(checks + " checks, " + wrong + " wrong");
        if (wrong != 0) {
            System.exit(1);
        }
    }

    private static void is(String what, long got, long want) {
        checks++;
        if (got != want) {
            wrong++;
            System.out.println(what + " answered " + got + ", due is " + want);
        }
    }

    private static void throwing(String what, String want, Call call) {
        checks++;
        String got;
        try {
            got = "answered " + call.run();
        } catch (RuntimeException e) {
            got = e.getClass().getSimpleName();
        }
        if (!got.equals(want)) {
            wrong++;
            System.out.println(what + ": " + got + ", due is " + want);
        }
    }

    private static void append(AttributeHouse x, String text) {
        for (int i = 0; i < text.length(); i += 4) {
            int signs = 0;
            for (int j = 0; j < 4 && i + j < text.length(); j++) {
                signs |= text.charAt(i + j) << 8 * j;
            }
            x.put(signs);
        }
    }

    private static int readGrammar(AttributeHouse x, String text) {
        x.end(0);
        append(x, text);
        return x.grammar();
    }

    private static int readTree(AttributeHouse x, String text) {
        x.end(0);
        append(x, text);
        return x.tree();
    }

    private static AttributeHouse with(String grammar) {
        AttributeHouse x = new AttributeHouse();
        is("grammar() of " + grammar, readGrammar(x, grammar), AttributeHouse.NONE);
        return x;
    }

    private static AttributeHouse with(String grammar, String tree) {
        AttributeHouse x = with(grammar);
        is("tree() of " + tree, readTree(x, tree), AttributeHouse.NONE);
        return x;
    }

    private static AttributeHouse begun(String grammar, String tree) {
        AttributeHouse x = with(grammar, tree);
        x.begin();
        return x;
    }

    /** The mark ^ stands where the fault is due. */
    private static void fault(String marked) {
        int due = marked.indexOf('^');
        is("grammar() of " + marked, readGrammar(new AttributeHouse(), marked.replace("^", "")), due);
    }

    private static void fine(String text) {
        is("grammar() of " + text, readGrammar(new AttributeHouse(), text), AttributeHouse.NONE);
    }

    private static void treeFault(AttributeHouse x, String marked) {
        is("tree() of " + marked, readTree(x, marked.replace("^", "")), marked.indexOf('^'));
    }

    private static String times(String s, int n) {
        return s.repeat(n);
    }

    /** A name of two letters for each number below 676. */
    private static String name(int i) {
        return "" + (char) ('a' + i / 26) + (char) ('a' + i % 26);
    }

    private static void face() {
        is("NONE", AttributeHouse.NONE, -1);
        is("final", Modifier.isFinal(AttributeHouse.class.getModifiers()) ? 1 : 0, 1);
        TreeSet<String> names = new TreeSet<>();
        for (Method m : AttributeHouse.class.getDeclaredMethods()) {
            if (!Modifier.isPrivate(m.getModifiers()) && !m.isSynthetic()) {
                names.add(m.getName() + m.getParameterCount());
            }
        }
        List<String> due = Arrays.asList("alone1", "begin0", "change2", "code2", "count1", "depends3", "end1",
                "grammar0", "held2", "level2", "machine1", "node2", "plan3", "put1", "size1", "start2", "step1",
                "store2", "top1", "tree0", "value2", "visit2");
        is("the face is " + names, names.equals(new TreeSet<>(due)) ? 1 : 0, 1);
        is("public fields", AttributeHouse.class.getFields().length, 1);
    }

    private static void newObject() {
        AttributeHouse x = new AttributeHouse();
        is("put(0) of a new object", x.put(0), 0);
        is("grammar() of an empty text", x.grammar(), 0);
        throwing("size without a grammar", ISE, () -> x.size(0));
        throwing("tree without a grammar", ISE, () -> x.tree());
        throwing("count without a tree", ISE, () -> x.count(0));
        throwing("begin without a tree", ISE, () -> x.begin());
    }

    private static void put() {
        AttributeHouse x = new AttributeHouse();
        is("put, zeros left out", x.put('a' << 8 | 'b' << 24), 2);
        is("put of the lowest and highest sign and a line end", x.put(' ' | '~' << 8 | 10 << 16), 5);
        for (int bad : new int[] {1, 9, 11, 13, 31, 127, 128, 255}) {
            throwing("put of byte " + bad, IAE, () -> x.put(bad));
            throwing("put of byte " + bad + " as the highest", IAE, () -> x.put('a' | bad << 24));
        }
        is("a put that throws changes nothing", x.put(0), 5);
        append(x, times("a", 2393));
        throwing("put of 2402 signs", UOE, () -> x.put('a' | 'a' << 8 | 'a' << 16 | 'a' << 24));
        is("put of 2400 signs", x.put('a' | 'a' << 8), 2400);
        throwing("put of one too many", UOE, () -> x.put('a' << 24));
        throwing("put of a bad one too many", IAE, () -> x.put('a' | 1 << 24));
        is("put of none into a full text", x.put(0), 2400);

        AttributeHouse y = new AttributeHouse();
        y.put('s' | 'y' << 8 | 'm' << 16 | 'b' << 24);
        append(y, "ol a;p:a={}");
        is("the lowest byte comes first", y.grammar(), AttributeHouse.NONE);
    }

    private static void end() {
        AttributeHouse x = new AttributeHouse();
        append(x, "symbol a;p:a={}@@");
        throwing("end below 0", IAE, () -> { x.end(-1); return 0; });
        throwing("end above", IAE, () -> { x.end(18); return 0; });
        x.end(17);
        is("with the bad signs", x.grammar(), 15);
        x.end(15);
        is("without them", x.grammar(), AttributeHouse.NONE);
        is("signs left", x.put(0), 15);
        throwing("end never goes back", IAE, () -> { x.end(16); return 0; });
        is("the text stays when it is read", x.grammar(), AttributeHouse.NONE);
    }

    private static void grammarTokens() {
        fine("symbol abcdefgh;p:abcdefgh={}");
        fault("symbol ^abcdefghi;p:a={}");
        fine("symbol a up x;p:a={000000.x=000001;}");
        fault("symbol a up x;p:a={0.x=^1000000;}");
        fault("symbol a up x;p:a={^0000000.x=1;}");
        fine("\n symbol\na\n\n up  x ; p : a = { 0 . x = 1 ; } \n");
        fine("symbol a up x;p:a={0.x=if 1then 2else 3;}");
        fault("symbol a up x;p:a={0.x=if1^x then 2else 3;}");
        fine("symbol a up x;p:a={0.x=if1then2else3;}");
        fault("^symbola;p:a={}");
        fault("symbol ^A;");
        fault("symbol a^!;");
        for (String word : new String[] {"symbol", "down", "up", "if", "then", "else"}) {
            fault("symbol ^" + word + ";p:a={}");
            fault("symbol a up ^" + word + ";p:a={}");
            fault("symbol a;^" + (word.equals("symbol") ? "if" : word) + ":a={}");
            fault("symbol a;p:^" + word + "={}");
        }
        fine("symbol downs up symbols,upp;iff:downs={0.symbols=1;0.upp=2;}");
        fine("symbol a up a;a:a={0.a=1;}");
    }

    private static void grammarFaults() {
        fault("^");
        fault("   ^");
        fault("symbol a; \n^");
        fault("^p:a={}");
        fault("symbol a^:");
        fault("symbol ^1;");
        fault("symbol a;symbol ^a;");
        fault("symbol a ^down x;p:a={0.x=1;}");
        fault("symbol a up x ^down y;");
        fault("symbol a up ^;");
        fault("symbol a up x,^;");
        fault("symbol a up x,^x;");
        fault("symbol a;symbol b down x up ^x;");
        fault("symbol a;symbol b down ^up x;");
        fault("symbol a;p^=a{}");
        fault("symbol a;p:^b={}");
        fault("symbol a;p:a^{}");
        fault("symbol a;p:a=#^#{}");
        fault("symbol a;p:a=a ^#{}");
        fault("symbol a;p:a=^b{}");
        fault("symbol a;p:a=a a a ^a{}");
        fault("symbol a;p:a={}^;");
        fault("symbol a;p:a={}^symbol b;");
        fault("symbol a;p:a={}^p:a={}");
        fault("symbol a;p:a={^");
        fault("symbol a up x;p:a={^}");
        fault("symbol a up x,y;p:a={0.x=1;^}");
        fault("symbol a;symbol b down d;p:a=b{^}");
        fault("symbol a up x;p:a={^x=1;}");
        fault("symbol a up x;p:a={^1.x=1;}");
        fault("symbol a up x;p:a={0^=1;}");
        fault("symbol a up x;p:a={0.^1=1;}");
        fault("symbol a up x;p:a={0.^y=1;}");
        fault("symbol a up x;p:a={0.x=1;0.^x=2;}");
        fault("symbol a up x;p:a={0.x^;}");
        fault("symbol a up x;p:a={0.x=1^}");
        fault("symbol a;symbol b down d up u;p:b={0.^d=1;}");
        fault("symbol a;symbol b down d up u;p:a=b{1.^u=1;}");
        fault("symbol a up x;symbol b down d up u;p:a=b{1.d=1;0.x=1.^d;}");
        fault("symbol a up x;p:a={0.x=0.^x;}");
        fault("symbol a up x;p:a={0.x=^1.x;}");
        fault("symbol a up x;p:a={0.x=^1 . x;}");
        fault("symbol a up x;p:a={0.x=0.^if;}");
        fault("symbol a up x;p:a={0.x=^#;}");
        fine("symbol a up x;p:a=#{0.x=#;}");
        fault("symbol a up x;p:a={0.x=^;}");
        fault("symbol a up x;p:a={0.x=1+^;}");
        fault("symbol a up x;p:a={0.x=1+^if 1 then 2 else 3;}");
        fault("symbol a up x;p:a={0.x=1<2^<3;}");
        fault("symbol a up x;p:a={0.x=1=2^=3;}");
        fault("symbol a up x;p:a={0.x=(1^;}");
        fault("symbol a up x;p:a={0.x=1^);}");
        fault("symbol a up x;p:a={0.x=if 1^else 2;}");
        fault("symbol a up x;p:a={0.x=if 1 then 2^;}");
        fault("symbol a up x;p:a={0.x=1 ^2;}");
        fault("symbol a up x;p:a={0.x=^+1;}");
        fault("symbol a up x;p:a={0.x=1-^+1;}");
        fine("symbol a up x;p:a={0.x=1--1;}");
        fine("symbol a up x;p:a={0.x=if 1<2 then 3=4 else 5<6;}");
    }

    private static void grammarLimits() {
        String eight = "aa,ab,ac,ad,ae,af,ag,ah";
        fault("symbol a up " + eight + ",^ai;");
        fault("symbol a;symbol b down " + eight + " up ^ai;");
        fine("symbol a;symbol b down " + eight + ";p:a={}");
        StringBuilder symbols = new StringBuilder();
        for (int i = 0; i < 12; i++) {
            symbols.append("symbol ").append(name(i)).append(";");
        }
        fine(symbols + "p:aa={}");
        fault(symbols + "^symbol x;");
        StringBuilder productions = new StringBuilder("symbol a;");
        for (int i = 0; i < 30; i++) {
            productions.append(name(i)).append(":a={}");
        }
        fine(productions.toString());
        fault(productions + "^x:a={}");
        fine("symbol a;p:a=a a a{}");

        String head = "symbol a up x;p:a={0.x=";
        fine(head + times("(", 10) + "1" + times(")", 10) + ";}");
        fault(head + times("(", 10) + "^(1" + times(")", 11) + ";}");
        fine(head + times("-", 10) + "1;}");
        fault(head + times("-", 10) + "^-1;}");
        fine(head + "1" + times("-1", 20) + ";}");
        fine(head + times("if 1 then 2 else ", 10) + "3;}");
        fault(head + times("if 1 then 2 else ", 10) + "^if 1 then 2 else 3;}");
        fault(head + times("if 1 then ", 10) + "^if 1 then 2 else 3;}");
        fault(head + times("if ", 10) + "^if 1 then 2 else 3;}");
        fault(head + times("-(", 5) + "^(1);}");
        fine(head + times("-(", 5) + "1" + times(")", 5) + "+" + times("(", 10) + "1" + times(")", 10) + ";}");
        fault(head + "if 1 then 2 else " + times("(", 9) + "^-1;}");
        fine(head + "(if 1 then 2 else 3)+" + times("(", 10) + "1" + times(")", 10) + ";}");

        // As many rules as a production can have.
        StringBuilder rules = new StringBuilder();
        for (int i = 0; i < 8; i++) {
            rules.append("0.").append(name(i)).append("=1;");
        }
        for (int o = 1; o <= 3; o++) {
            for (int i = 0; i < 8; i++) {
                rules.append(o).append('.').append(name(i)).append("=1;");
            }
        }
        String both = "symbol a up " + eight + ";symbol b down " + eight + ";p:a=b b b{" + rules;
        fine(both + "}");
        fault(both + "3.^ah=1;}");
        String longest = "symbol a up x;p:a={0.x=1" + times("+1", 1180) + ";}";
        is("length of the longest", longest.length() <= 2400 ? 1 : 0, 1);
        fine(longest + times(" ", 2400 - longest.length()));
        fault(longest + times(" ", 2399 - longest.length()) + "^;");
    }

    private static void order(String text, int due) {
        is("grammar() of " + text, readGrammar(new AttributeHouse(), text), due);
    }

    private static void grammarOrder() {
        // By what is induced q is circular, too: z depends on y by its own rule, y on z by p.
        order("symbol a up x;symbol b down y up z;q:b={0.z=0.y;}p:a=b{0.x=1.z;1.y=1.z;}", 2000);
        order("symbol a up x;symbol b down y up z;o:a={0.x=1;}q:b={0.z=0.y;}p:a=b{0.x=1.z;1.y=1.z;}", 2001);
        order("symbol a up x;symbol b down y up z;symbol c down y up z;"
                + "e:a={0.x=1;}p:a=b{0.x=1.z;1.y=1.z;}q:b=c{0.z=1.z;1.y=0.y;}r:c={0.z=0.y;}", 2001);
        order("symbol a up x;symbol b down y,w up z,v;q:b={0.z=0.y;0.v=0.w;}o:a={0.x=0;}"
                + "p:a=b b{0.x=1.z;1.y=2.z;1.w=0;2.y=0;2.w=1.v;}", 3002);
        // A circular one is told ahead of a crossed one.
        order("symbol a up x;symbol b down y,w up z,v;symbol c down y up z;q:b={0.z=0.y;0.v=0.w;}"
                + "p:a=b b{0.x=1.z;1.y=2.z;1.w=0;2.y=0;2.w=1.v;}k:a=c{0.x=0;1.y=1.z;}l:c={0.z=0.y;}", 2002);
        order(LISTS, -1);
        order(TWICE, -1);
    }

    private static void grammarState() {
        AttributeHouse x = begun(CHAIN, "top(leaf 1)");
        is("a fault leaves all", readGrammar(x, "symbol a^"), 8);
        is("an unordered one leaves all", readGrammar(x,
                "symbol a up x;symbol b down y up z;p:a=b{0.x=1.z;1.y=1.z;}q:b={0.z=0.y;}"), 2000);
        is("symbols after faults", x.size(0), 2);
        is("the tree after faults", x.count(0), 2);
        is("the machine after faults", x.machine(0), 0);
        is("the next grammar", readGrammar(x, "symbol a;p:a={}"), -1);
        is("its symbols", x.size(0), 1);
        throwing("its tree", ISE, () -> x.count(0));
        throwing("its machine", ISE, () -> x.machine(0));
        throwing("begin without its tree", ISE, () -> x.begin());
    }

    private static void sizes() {
        AttributeHouse x = new AttributeHouse();
        throwing("size(0), no grammar", ISE, () -> x.size(0));
        throwing("size(9), no grammar", ISE, () -> x.size(9));
        readGrammar(x, LISTS);
        is("size(0)", x.size(0), 3);
        is("size(1)", x.size(1), 5);
        throwing("size(2)", IAE, () -> x.size(2));
        throwing("size(-1)", IAE, () -> x.size(-1));
    }

    private static void depends() {
        AttributeHouse x = new AttributeHouse();
        throwing("depends, no grammar", ISE, () -> x.depends(9, 9, 9) ? 1 : 0);
        readGrammar(x, TWICE);
        // a 0, b 1, x 2, y 3: x on a; b on x (by p), so on a; y on a and b, so on x.
        String[] due = {"0000", "1010", "1000", "1110"};
        for (int a = 0; a < 4; a++) {
            for (int b = 0; b < 4; b++) {
                is("depends(1, " + a + ", " + b + ")", x.depends(1, a, b) ? 1 : 0, due[a].charAt(b) - '0');
            }
        }
        is("depends(0, 0, 0)", x.depends(0, 0, 0) ? 1 : 0, 0);
        throwing("depends, symbol 2", IAE, () -> x.depends(2, 0, 0) ? 1 : 0);
        throwing("depends, symbol -1", IAE, () -> x.depends(-1, 0, 0) ? 1 : 0);
        throwing("depends, a 4", IAE, () -> x.depends(1, 4, 0) ? 1 : 0);
        throwing("depends, a -1", IAE, () -> x.depends(1, -1, 0) ? 1 : 0);
        throwing("depends, b 1", IAE, () -> x.depends(0, 0, 1) ? 1 : 0);
        throwing("depends, b -1", IAE, () -> x.depends(0, 0, -1) ? 1 : 0);
        // What a head induces comes to where the symbol is used, and the other way round.
        AttributeHouse y = with("symbol r up v;symbol s down d up u,w;p:r=s{1.d=1.w;0.v=1.u;}"
                + "q:s=s{1.d=0.d;0.u=1.u;0.w=1.w;}e:s={0.u=0.d;0.w=3;}");
        is("d on w", y.depends(1, 0, 2) ? 1 : 0, 1);
        is("u on d", y.depends(1, 1, 0) ? 1 : 0, 1);
        is("u on w", y.depends(1, 1, 2) ? 1 : 0, 1);
        is("w on d", y.depends(1, 2, 0) ? 1 : 0, 0);
    }

    private static void levels() {
        AttributeHouse x = new AttributeHouse();
        throwing("level, no grammar", ISE, () -> x.level(0, -1));
        readGrammar(x, TWICE);
        int[] due = {4, 2, 3, 1};
        for (int a = 0; a < 4; a++) {
            is("level(1, " + a + ")", x.level(1, a), due[a]);
        }
        is("visits of t", x.level(1, -1), 2);
        is("visits of r", x.level(0, -1), 1);
        throwing("level(1, 4)", IAE, () -> x.level(1, 4));
        throwing("level(1, -2)", IAE, () -> x.level(1, -2));
        throwing("level(2, -1)", IAE, () -> x.level(2, -1));
        throwing("level(-1, -1)", IAE, () -> x.level(-1, -1));
        AttributeHouse y = with("symbol a;symbol b down x,y;p:a={}");
        is("visits without attributes", y.level(0, -1), 1);
        is("all down: level", y.level(1, 1), 2);
        is("all down: visits", y.level(1, -1), 1);
        // The longest chain: d on c on b .. on a, eight by turns, the last one down.
        AttributeHouse z = with("symbol r;symbol s down b,d,f,h up a,c,e,g;"
                + "p:r=s{1.b=1.a;1.d=1.c;1.f=1.e;1.h=1.g;}q:s={0.a=1;0.c=0.b;0.e=0.d;0.g=0.f;}");
        int[] chain = {8, 6, 4, 2, 9, 7, 5, 3};
        for (int a = 0; a < 8; a++) {
            is("chain: level " + a, z.level(1, a), chain[a]);
        }
        is("chain: visits", z.level(1, -1), 5);
        is("chain: visit 1", z.visit(1, 1), 256 * 16);
        is("chain: visit 5", z.visit(1, 5), 8);
    }

    private static void planIs(AttributeHouse x, int production, int visit, int... due) {
        for (int i = 0; i < due.length; i++) {
            is("plan(" + production + ", " + visit + ", " + i + ")", x.plan(production, visit, i), due[i]);
        }
        is("plan behind its end", x.plan(production, visit, due.length), AttributeHouse.NONE);
        is("plan far behind its end", x.plan(production, visit, Integer.MAX_VALUE), AttributeHouse.NONE);
    }

    private static void plans() {
        AttributeHouse x = new AttributeHouse();
        throwing("plan, no grammar", ISE, () -> x.plan(0, 1, -1));
        readGrammar(x, LISTS);
        planIs(x, 0, 1, 20, 1, 2, 30, 1, 2, 10);
        planIs(x, 1, 1, 1, 12);
        planIs(x, 1, 2, 20, 30, 1, 2, 11);
        planIs(x, 2, 1, 12);
        planIs(x, 2, 2, 20, 1, 11);
        planIs(x, 3, 1, 11);
        throwing("plan(5, 1, 0)", IAE, () -> x.plan(5, 1, 0));
        throwing("plan(-1, 1, 0)", IAE, () -> x.plan(-1, 1, 0));
        throwing("plan(0, 2, 0)", IAE, () -> x.plan(0, 2, 0));
        throwing("plan(0, 0, 0)", IAE, () -> x.plan(0, 0, 0));
        throwing("plan(0, 1, -1)", IAE, () -> x.plan(0, 1, -1));
        planIs(with(PAIR), 3, 1, 20, 30, 1, 2, 11);
        AttributeHouse y = with("symbol a;p:a=a a{}q:a={}");
        planIs(y, 0, 1, 1, 2);
        planIs(y, 1, 1);
    }

    private static void storesAre(String grammar, int symbol, int... due) {
        AttributeHouse x = with(grammar);
        for (int a = 0; a < due.length; a++) {
            is("store(" + symbol + ", " + a + ") of " + grammar, x.store(symbol, a), due[a]);
        }
    }

    private static void stores() {
        AttributeHouse x = new AttributeHouse();
        throwing("store, no grammar", ISE, () -> x.store(9, 9));
        readGrammar(x, CHAIN);
        throwing("store(2, 0)", IAE, () -> x.store(2, 0));
        throwing("store(1, 2)", IAE, () -> x.store(1, 2));
        throwing("store(1, -1)", IAE, () -> x.store(1, -1));
        storesAre(CHAIN, 0, 2);
        storesAre(CHAIN, 1, 0, 0);
        storesAre(PAIR, 1, 1, 1);
        storesAre(TWICE, 1, 2, 0, 0, 0);
        storesAre(LISTS, 1, 1, 1, 0);
        storesAre(LISTS, 2, 1, 0);
        // The root's are kept with nodes where it is used, too.
        storesAre("symbol r up v;p:r=r{0.v=1.v+1;}q:r={0.v=1;}", 0, 2);
        // Named by no rule, and of no production.
        storesAre("symbol r;symbol s down d up u;p:r={}", 1, 0, 0);
        // An attribute up of visit 2 that is evaluated in visit 1.
        storesAre("symbol r up v;symbol s down d up u,w;p:r=s{1.d=1.u;0.v=1.w;}"
                + "q:s={0.u=1;0.w=0.d;}k:s={0.u=1;0.w=2;}", 1, 0, 0, 2);
        // An attribute up of visit 1 that is named when the second visit is in another plan.
        storesAre("symbol r up v;symbol s down d up u,w;symbol t down d up u,w;"
                + "p:r=s{1.d=1.u;0.v=1.w;}q:s=t{0.u=1.u;1.d=0.d;0.w=1.w+1.u;}"
                + "e:t={0.u=1;0.w=0.d;}", 2, 0, 2, 0);
        // A down one is defined in a plan ahead of the visit that takes it.
        storesAre("symbol r up v;symbol s down d up u,w;symbol t down d,e up w;"
                + "p:r=s{1.d=1.u;0.v=1.w;}q:s=t{0.u=1;1.d=0.d;1.e=4;0.w=1.w;}e:t={0.w=0.d+0.e;}", 2, 0, 2, 0);
        // Ahead of the last rule that names it a visit defines it again.
        storesAre("symbol r up v;symbol s down d up u;p:r=s{1.d=1;0.v=1.u;}"
                + "q:s=s{1.d=0.d+1;0.u=1.u*0.d;}e:s={0.u=0.d;}", 1, 1, 0);
    }

    private static void trees() {
        AttributeHouse x = new AttributeHouse();
        throwing("tree, no grammar", ISE, () -> x.tree());
        readGrammar(x, PAIR);
        is("tree", readTree(x, " top\n(pair ( leaf - 3 ,leaf 000007))  "), -1);
        is("nodes", x.count(0), 4);
        is("the text stays", x.tree(), -1);
        x.begin();
        x.step(2);
        is("a fault", readTree(x, "top(leaf)"), 8);
        is("the tree before stays", x.count(0), 4);
        is("and its machine", x.machine(3), 2);
        is("another tree", readTree(x, "top(leaf 1)"), -1);
        is("it is another one", x.count(0), 2);
        throwing("its machine has not begun", ISE, () -> x.machine(3));
        AttributeHouse y = with("symbol r up v;p:r=#r r{0.v=#+1.v;}q:r=#{0.v=#;}", "p 1(p -2(q 3,q 4),q -5)");
        is("literal ahead of the bracket", y.node(1, 2), -2);
    }

    private static void treeFaults() {
        AttributeHouse x = with(PAIR);
        treeFault(x, "^");
        treeFault(x, "  ^");
        treeFault(x, "^leaf 1");
        treeFault(x, "^nothing");
        treeFault(x, "^if");
        treeFault(x, "^(leaf 1)");
        treeFault(x, "top^");
        treeFault(x, "top^,");
        treeFault(x, "top(^top(leaf 1))");
        treeFault(x, "top(^)");
        treeFault(x, "top(leaf^)");
        treeFault(x, "top(leaf -^)");
        treeFault(x, "top(leaf -^-1)");
        treeFault(x, "top(leaf ^1234567)");
        treeFault(x, "top(^abcdefghi)");
        treeFault(x, "top(leaf 1^");
        treeFault(x, "top(leaf 1^,leaf 1)");
        treeFault(x, "top(leaf 1^(leaf 1))");
        treeFault(x, "top(leaf 1)^)");
        treeFault(x, "top(leaf 1) ^top");
        treeFault(x, "top(leaf 1) ^@");
        treeFault(x, "top(pair(leaf 1^))");
        treeFault(x, "top(pair(leaf 1,^))");
        treeFault(x, "top(pair(leaf 1,leaf 2^,leaf 3))");
        treeFault(x, "top(more(leaf 1)^");
        treeFault(x, "top(more ^3(leaf 1))");
        treeFault(with("symbol r;symbol s;p:r={}"), "p^(");
        treeFault(with("symbol r;symbol s;p:r=s{}"), "p(^p)");
        AttributeHouse y = with("symbol r;p:r=r{}q:r=r r{}e:r={}");
        is("250 nodes, one in another", readTree(y, times("p(", 249) + "e" + times(")", 249)), -1);
        is("250 nodes", y.count(0), 250);
        treeFault(y, times("p(", 250) + "^e" + times(")", 250));
        is("249 nodes by the side", readTree(y, times("q(e,", 124) + "e" + times(")", 124)), -1);
        treeFault(y, times("q(e,", 125) + "^e" + times(")", 125));
    }

    private static void counts() {
        AttributeHouse x = new AttributeHouse();
        throwing("count, no grammar", ISE, () -> x.count(9));
        readGrammar(x, LISTS);
        throwing("count, no tree", ISE, () -> x.count(9));
        readTree(x, "root(more(one(lit 5),lit 7),one(lit 2))");
        is("nodes", x.count(0), 7);
        is("attributes", x.count(1), 1 + 3 * 3 + 3 * 2);
        is("visits", x.count(2), 1 + 3 * 2 + 3);
        // The second list's scale is -1: its literal divides by 0.
        is("errors", x.count(3), 3);
        is("of store 2", x.count(4), 1);
        // Frames: root 4, more 3, one 1.
        is("frames", x.count(5), 4 + 3 + 1);
        is("of store 0", x.count(6), 2);
        throwing("count(7)", IAE, () -> x.count(7));
        throwing("count(-1)", IAE, () -> x.count(-1));
        is("of store 2, more nodes", with(TWICE, "p 1(q 2)").count(4), 2);
        is("of store 0, without a node", with("symbol r;symbol s down d up u;p:r={}", "p").count(6), 2);
        is("frames of a node alone", with(PAIR, "top(leaf 1)").count(5), 2);
        is("frames below", with(PAIR, "top(pair(pair(leaf 1,leaf 2),more(leaf 3)))").count(5), 10);
    }

    private static void nodes() {
        AttributeHouse x = with(PAIR);
        throwing("node, no tree", ISE, () -> x.node(99, 99));
        readTree(x, "top(pair(more(leaf -3),leaf 9))");
        int[][] due = {{0, -1, 0, 0}, {3, 0, 0, 1}, {1, 1, 0, 1}, {2, 2, -3, 1}, {2, 1, 9, 1}};
        for (int n = 0; n < 5; n++) {
            for (int what = 0; what < 4; what++) {
                is("node(" + n + ", " + what + ")", x.node(n, what), due[n][what]);
            }
        }
        throwing("node(5, 9)", IOOBE, () -> x.node(5, 9));
        throwing("node(-1, 0)", IOOBE, () -> x.node(-1, 0));
        throwing("node(0, 4)", IAE, () -> x.node(0, 4));
        throwing("node(0, -1)", IAE, () -> x.node(0, -1));
    }

    private static void values() {
        AttributeHouse x = with(PAIR);
        throwing("value, no tree", ISE, () -> x.value(99, 99));
        readTree(x, "top(pair(more(leaf -3),leaf 9))");
        int[][] due = {{17}, {5, 16}, {5, 13}, {10, 13}, {6, -3}};
        for (int n = 0; n < 5; n++) {
            for (int a = 0; a < due[n].length; a++) {
                is("value(" + n + ", " + a + ")", x.value(n, a), due[n][a]);
            }
        }
        throwing("value(5, 0)", IOOBE, () -> x.value(5, 0));
        throwing("value(-1, 0)", IOOBE, () -> x.value(-1, 0));
        throwing("value(0, 1)", IOOBE, () -> x.value(0, 1));
        throwing("value(1, -1)", IOOBE, () -> x.value(1, -1));

        AttributeHouse y = with(ERRORS, "p(n 7,n 0)");
        throwing("7 / 0", AE, () -> y.value(0, 0));
        throwing("if error", AE, () -> y.value(0, 1));
        is("an error that isn't taken", y.value(0, 2), 7);
        throwing("an error compared", AE, () -> y.value(0, 3));
        is("errors", y.count(3), 3);
        AttributeHouse z = with(ERRORS, "p(n -7,n 2)");
        is("-7 / 2", z.value(0, 0), -3);
        is("if -3", z.value(0, 1), 1);
        is("if 2", z.value(0, 2), -3);
        is("(-3 < 1) + 3", z.value(0, 3), 4);
    }

    private static long result(String expression) {
        return with("symbol r up v;p:r=#{0.v=" + expression + ";}", "p 0").value(0, 0);
    }

    private static void arithmetic() {
        is("left to right", result("100-7-2"), 91);
        is("quotients", result("100/7/2*3"), 21);
        is("products first", result("2+3*4-5"), 9);
        is("brackets", result("(2+3)*(4-5)"), -5);
        is("minus of a factor", result("-2*3--4"), -2);
        is("below", result("(1<2)*10+(2<1)+(2<2)"), 10);
        is("like", result("(2=2)*10+(2=1)"), 10);
        is("wrapping product", result("999999*999999"), 999999 * 999999);
        is("wrapping sum", result("2147*1000*1000+483647+1"), Integer.MIN_VALUE);
        is("the lowest one negated", result("-(2147*1000*1000+483647+1)"), Integer.MIN_VALUE);
        is("the lowest one by -1", result("(2147*1000*1000+483647+1)/-1"), Integer.MIN_VALUE);
        is("quotients go to 0", result("-7/2"), -3);
        is("if of a comparison", result("if 1<2 then 3<4 else 9"), 1);
        is("if of 0", result("if 0 then 1 else if -5 then 2 else 3"), 2);
        is("a deep stack", result("1<1+1*(1<1+1*(1<1+1*(1<1+1*(1<1+1*(1<1+1*(1<1+1*(1<1+1*(1<1+1*(1<1+1*2"
                + times(")", 9)), 1);
    }

    private static void changes() {
        AttributeHouse x = with(ERRORS);
        throwing("change, no tree", ISE, () -> x.change(99, 0));
        readTree(x, "p(n 7,n 0)");
        throwing("change(3, 0)", IOOBE, () -> x.change(3, 0));
        throwing("change(-1, 0)", IOOBE, () -> x.change(-1, 0));
        throwing("change(0, 0)", IAE, () -> x.change(0, 0));
        is("to the same", x.change(1, 7), 0);
        // n's own value; q, i and c stay the error, t stays 7.
        is("to another, errors stay", x.change(1, 8), 1);
        is("errors go", x.change(2, 2), 5);
        is("its literal", x.node(2, 2), 2);
        is("8 / 2", x.value(0, 0), 4);
        is("errors come", x.change(2, 0), 5);
        throwing("8 / 0", AE, () -> x.value(0, 0));
        is("the lowest literal", x.change(1, Integer.MIN_VALUE), 1);
        is("by -1", x.change(2, -1), 5);
        is("wraps", x.value(0, 0), Integer.MIN_VALUE);

        AttributeHouse y = begun(CHAIN, "top(leaf 3)");
        y.step(4);
        is("a change under way", y.change(1, 100), 2);
        is("the machine stays where it is", y.machine(3), 4);
        y.step(100);
        is("it takes the new literal", y.held(0, 0), 5 - 100 + 1);
    }

    private static void visits() {
        AttributeHouse x = new AttributeHouse();
        throwing("visit, no grammar", ISE, () -> x.visit(9, 9));
        readGrammar(x, TWICE);
        is("visit(0, 1)", x.visit(0, 1), 256);
        is("visit(1, 1)", x.visit(1, 1), 1 + 256 * 4);
        is("visit(1, 2)", x.visit(1, 2), 2 + 256 * 8);
        throwing("visit(1, 0)", IAE, () -> x.visit(1, 0));
        throwing("visit(1, 3)", IAE, () -> x.visit(1, 3));
        throwing("visit(2, 1)", IAE, () -> x.visit(2, 1));
        throwing("visit(-1, 1)", IAE, () -> x.visit(-1, 1));
        is("a visit of nothing", with("symbol a;p:a={}").visit(0, 1), 0);
    }

    private static void codeIs(AttributeHouse x, int from, int... due) {
        for (int i = 0; i < due.length; i += 2) {
            int at = from + i / 2;
            is("kind of " + at, x.code(at, 0), due[i]);
            is("number of " + at, x.code(at, 1), due[i + 1]);
        }
    }

    private static void codes() {
        AttributeHouse x = new AttributeHouse();
        throwing("code, no grammar", ISE, () -> x.code(-1, 9));
        readGrammar(x, CHAIN);
        codeIs(x, 0, 0, 5, 16, 0, 19, 1, 3, 1, 0, 1, 7, 0, 15, 0, 20, 0);
        codeIs(x, 8, 3, 0, 0, 2, 9, 0, 16, 0, 19, 1, 3, 1, 16, 1, 20, 0);
        codeIs(x, 16, 3, 0, 1, 0, 8, 0, 16, 1, 20, 0);
        throwing("code(21, 9)", IOOBE, () -> x.code(21, 9));
        throwing("code(-1, 0)", IOOBE, () -> x.code(-1, 0));
        throwing("code(0, 2)", IAE, () -> x.code(0, 2));
        throwing("code(0, -1)", IAE, () -> x.code(0, -1));
        AttributeHouse y = with(PAIR);
        codeIs(y, y.start(3, 1), 5, 0, 17, 0, 5, 0, 0, 1, 7, 0, 17, 2, 19, 1, 19, 2, 4, 1, 4, 3, 8, 0, 18, 1, 20, 0);
        codeIs(y, y.start(2, 1), 5, 0, 1, 0, 8, 0, 18, 1, 20, 0);
        AttributeHouse z = with(TWICE);
        codeIs(z, 0, 1, 0, 15, 10, 19, 1, 3, 1, 16, 0, 19, 1, 3, 2, 15, 0, 20, 0);
        codeIs(z, 9, 2, 0, 1, 0, 7, 0, 16, 1, 20, 0);
        codeIs(z, 14, 2, 0, 3, 0, 9, 0, 16, 2, 20, 0);
    }

    private static void choiceCode() {
        AttributeHouse x = with("symbol r up v,w;p:r=#{0.v=1;"
                + "0.w=if #<2 then -3 else if (4=5) then 6/7 else 8*9;}");
        // 0: v. 2: # < 2, TEST 9, 3 NEGATE, JUMP 20, 9: 4 = 5, TEST 17, 6 / 7, JUMP 20, 17: 8 * 9, 20: SET.
        codeIs(x, 0, 0, 1, 15, 0, 1, 0, 0, 2, 11, 0, 13, 9, 0, 3, 6, 0, 14, 20, 0, 4, 0, 5, 12, 0, 13, 17,
                0, 6, 0, 7, 10, 0, 14, 20, 0, 8, 0, 9, 9, 0, 15, 1, 20, 0);
    }

    private static void starts() {
        AttributeHouse x = new AttributeHouse();
        throwing("start, no grammar", ISE, () -> x.start(-1, 1));
        readGrammar(x, TWICE);
        is("start(0, 1)", x.start(0, 1), 0);
        is("start(1, 1)", x.start(1, 1), 9);
        is("start(1, 2)", x.start(1, 2), 14);
        throwing("start(2, 1)", IAE, () -> x.start(2, 1));
        throwing("start(-1, 1)", IAE, () -> x.start(-1, 1));
        throwing("start(0, 2)", IAE, () -> x.start(0, 2));
        throwing("start(1, 0)", IAE, () -> x.start(1, 0));
    }

    private static void begins() {
        AttributeHouse x = with("symbol r up v;p:r={0.v=1;}q:r=#{0.v=#;}");
        throwing("begin, no tree", ISE, () -> x.begin());
        readTree(x, "q 5");
        is("begin", x.begin(), 3);
        x.step(100);
        is("it is over", x.machine(0), -1);
        is("what it kept", x.held(0, 0), 5);
        is("it begins again", x.begin(), 3);
        is("without instructions done", x.machine(3), 0);
        is("all 0", x.held(0, 0), 0);
        readTree(x, "p");
        throwing("a new tree's machine has not begun", ISE, () -> x.step(0));
        is("begin of another production", x.begin(), 0);
    }

    private static void steps() {
        AttributeHouse x = with(CHAIN, "top(leaf 3)");
        throwing("step, not begun", ISE, () -> x.step(-1));
        x.begin();
        throwing("step(-1)", IAE, () -> x.step(-1));
        throwing("step(100001)", IAE, () -> x.step(100001));
        is("step(0)", x.step(0), 0);
        is("step(5)", x.step(5), 5);
        is("step(100000)", x.step(100000), 8);
        is("when it is over", x.step(1), 0);
        is("instructions done", x.machine(3), 13);
        is("what comes out", x.held(0, 0), x.value(0, 0));
    }

    private static void machineIs(AttributeHouse x, int... due) {
        for (int what = 0; what < due.length; what++) {
            is("machine(" + what + ")", x.machine(what), due[what]);
        }
    }

    private static void machines() {
        AttributeHouse x = with(CHAIN, "top(more(leaf 3))");
        throwing("machine, not begun", ISE, () -> x.machine(9));
        x.begin();
        machineIs(x, 0, 1, 0, 0, 0, 21);
        throwing("machine(6)", IAE, () -> x.machine(6));
        throwing("machine(-1)", IAE, () -> x.machine(-1));
        x.step(1);
        machineIs(x, 1, 1, 1, 1, 0, 21);
        x.step(2);
        machineIs(x, 8, 2, 0, 3, 1, 21);
        x.step(2);
        machineIs(x, 10, 2, 2, 5, 1, 21);
        x.step(3);
        machineIs(x, 16, 3, 0, 8, 2, 21);
        x.step(5);
        machineIs(x, 13, 2, 0, 13, 1, 21);
        x.step(3);
        machineIs(x, 3, 1, 0, 16, 0, 21);
        x.step(4);
        machineIs(x, 7, 1, 0, 20, 0, 21);
        x.step(1);
        machineIs(x, -1, 0, 0, 21, -1, 21);
        // A second visit goes on at the second plan.
        AttributeHouse y = begun(TWICE, "p 4(q 3)");
        y.step(3);
        machineIs(y, 9, 2, 0, 3, 1, 19);
        y.step(5);
        machineIs(y, 3, 1, 0, 8, 0, 19);
        y.step(3);
        machineIs(y, 14, 2, 0, 11, 1, 19);
        y.step(100);
        is("4 * (4 + 3)", y.held(0, 0), 28);
    }

    private static void errorsInMachine() {
        // 1, 1 / #, TEST 7, 2, JUMP 8, 7: 3, 8: ADD. TEST with the error goes behind the whole if, with the error on the stack.
        AttributeHouse x = begun("symbol r up v;p:r=#{0.v=1+(if 1/# then 2 else 3);}", "p 0");
        x.step(4);
        is("ahead of TEST", x.machine(0), 4);
        throwing("the error on the stack", AE, () -> x.top(0));
        x.step(1);
        is("behind the if", x.machine(0), 8);
        is("values", x.machine(2), 2);
        throwing("the error came back", AE, () -> x.top(0));
        is("the value below it", x.top(1), 1);
        x.step(1);
        throwing("1 + error", AE, () -> x.top(0));
        is("kept before", x.held(0, 0), 0);
        x.step(1);
        throwing("kept then", AE, () -> x.held(0, 0));
        x.begin();
        x.change(0, 5);
        x.step(5);
        is("1 / 5 is 0: to else", x.machine(0), 7);
        x.begin();
        x.change(0, 1);
        x.step(5);
        is("1 / 1 is 1: on", x.machine(0), 5);
        x.step(2);
        is("JUMP behind the if", x.machine(0), 8);
    }

    private static void alone() {
        AttributeHouse x = with(CHAIN, "top(more(leaf 3))");
        throwing("alone, not begun", ISE, () -> x.alone(9));
        x.begin();
        is("all 0", x.alone(0), 0);
        throwing("alone(2)", IOOBE, () -> x.alone(2));
        throwing("alone(-1)", IOOBE, () -> x.alone(-1));
        x.step(2);
        is("d of more", x.alone(0), 5);
        x.step(5);
        is("d of leaf", x.alone(0), 10);
        is("u, not yet", x.alone(1), 0);
        x.step(100);
        is("u, when it is over", x.alone(1), 7);
        AttributeHouse y = begun("symbol r up v;symbol s up w;p:r=s{0.v=if 0 then 1.w else 2;}q:s={0.w=1/0;}", "p(q)");
        y.step(100);
        throwing("a variable that is the error", AE, () -> y.alone(0));
        is("the root's is none", y.held(0, 0), 2);
        AttributeHouse z = begun("symbol r up v;p:r={0.v=1;}", "p");
        throwing("without variables", IOOBE, () -> z.alone(0));
    }

    private static void top() {
        AttributeHouse x = with("symbol r up v;p:r={0.v=1-2*(3/0);}", "p");
        throwing("top, not begun", ISE, () -> x.top(9));
        x.begin();
        throwing("an empty stack", IOOBE, () -> x.top(0));
        x.step(4);
        is("top(0)", x.top(0), 0);
        is("top(1)", x.top(1), 3);
        is("top(3)", x.top(3), 1);
        throwing("top(4)", IOOBE, () -> x.top(4));
        throwing("top(-1)", IOOBE, () -> x.top(-1));
        x.step(1);
        throwing("3 / 0", AE, () -> x.top(0));
        is("below the error", x.top(1), 2);
        x.step(100);
        throwing("when it is over", IOOBE, () -> x.top(0));
    }

    private static void held() {
        AttributeHouse x = with(TWICE, "p 4(q 3)");
        throwing("held, not begun", ISE, () -> x.held(9, 9));
        x.begin();
        throwing("held(2, 0)", IOOBE, () -> x.held(2, 0));
        throwing("held(-1, 0)", IOOBE, () -> x.held(-1, 0));
        throwing("held(0, 1)", IOOBE, () -> x.held(0, 1));
        throwing("held(1, -1)", IOOBE, () -> x.held(1, -1));
        throwing("held of store 0", IAE, () -> x.held(1, 1));
        is("not yet", x.held(1, 0), 0);
        x.step(2);
        is("a of q", x.held(1, 0), 4);
        AttributeHouse y = begun(PAIR, "top(leaf 1)");
        throwing("held of store 1", IAE, () -> y.held(1, 0));
        List<Integer> seen = new ArrayList<>();
        for (int i = 0; i < 100; i++) {
            y.step(1);
            seen.add(y.held(0, 0));
        }
        is("v comes once", seen.stream().distinct().count(), 2);
        is("v at last", seen.get(99), 5);
    }
}
