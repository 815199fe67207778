/** A test for each sentence of the document's Terms 3 (TREES), with answers worked out by hand. */
public final class TreeTermsTests {
    /** All operations on two literals. */
    private static final String TWO = "symbol r up s,d,m,q,n,l,e;symbol n up v;"
            + "p:r=n n{0.s=1.v+2.v;0.d=1.v-2.v;0.m=1.v*2.v;0.q=1.v/2.v;0.n=-1.v;0.l=1.v<2.v;0.e=1.v=2.v;}"
            + "n:n=#{0.v=#;}";
    private static final int[] EDGES = {Integer.MIN_VALUE, Integer.MIN_VALUE + 1, -65536, -2, -1, 0, 1, 2, 65536,
            Integer.MAX_VALUE - 1, Integer.MAX_VALUE};

    public static void main(String[] args) {
        Kit.runAll(TreeTermsTests.class);
    }

    /** TWO's tree with these literals. */
    private static AttributeHouse of(int left, int right) {
        AttributeHouse x = Kit.with(TWO, "p(n 0,n 0)");
        x.change(1, left);
        x.change(2, right);
        return x;
    }

    private static void resultIs(String expression, int due) {
        Kit.is(expression, Kit.result(expression), "" + due);
    }

    private static void isError(String expression) {
        Kit.is(expression, Kit.result(expression), Kit.AE);
    }

    // Reading

    @Kit.Of(where = "Terms 3", sentence = "A text: a TREE is a NODE of a production of the root.")
    static void aTreeBeginsWithTheRoot() {
        AttributeHouse x = Kit.with("symbol r;symbol s;p:r=s r{}q:s={}e:r={}");
        Kit.fineTree(x, "e");
        Kit.fineTree(x, "p(q,e)");
        Kit.treeFault(x, "^q");
        Kit.treeFault(x, "^");
        Kit.treeFault(x, "  \n ^");
        Kit.treeFault(x, "^(e)");
        Kit.treeFault(x, "^1");
        Kit.treeFault(x, "^r");
    }

    @Kit.Of(where = "Terms 3", sentence = "A NODE is a production's name; with a literal a number, perhaps - ahead; if it has "
            + "symbols, ( NODES of productions of these symbols, with commas ).")
    static void literalsOfNodes() {
        AttributeHouse x = Kit.with("symbol r;p:r=#{}q:r=#r{}e:r={}");
        int[] due = {0, 0, -5, 999999, -999999, 7};
        String[] texts = {"p 0", "p -0", "p - 5", "p999999", "p-999999", "p\n000007"};
        for (int i = 0; i < due.length; i++) {
            Kit.fineTree(x, texts[i]);
            Kit.is("literal of " + texts[i], x.node(0, 2), due[i]);
        }
        Kit.treeFault(x, "p^");
        Kit.treeFault(x, "p -^");
        Kit.treeFault(x, "p -^-1");
        Kit.treeFault(x, "p ^+1");
        Kit.treeFault(x, "p ^#");
        Kit.treeFault(x, "p ^e");
        Kit.treeFault(x, "p 1 ^2");
        Kit.treeFault(x, "e ^1");
        Kit.treeFault(x, "e^-1");
        Kit.treeFault(x, "q^(e)");
        Kit.treeFault(x, "q^(e)1");
        Kit.fineTree(x, "q -1(q 2(e))");
    }

    @Kit.Of(where = "Terms 3", sentence = "A NODE is a production's name; with a literal a number, perhaps - ahead; if it has "
            + "symbols, ( NODES of productions of these symbols, with commas ).")
    static void nodesBelow() {
        AttributeHouse x = Kit.with("symbol r;symbol s;symbol t;a:r=s{}b:r=s t{}c:r=s t r{}e:r={}s:s={}t:t={}");
        Kit.fineTree(x, "a(s)");
        Kit.fineTree(x, " b ( s\n, t ) ");
        Kit.fineTree(x, "c(s,t,c(s,t,e))");
        Kit.treeFault(x, "a^");
        Kit.treeFault(x, "a ^s");
        Kit.treeFault(x, "a(^");
        Kit.treeFault(x, "a(^)");
        Kit.treeFault(x, "a(s^");
        Kit.treeFault(x, "a(s^,s)");
        Kit.treeFault(x, "a(^(s))");
        Kit.treeFault(x, "b(s^)");
        Kit.treeFault(x, "b(s ^t)");
        Kit.treeFault(x, "b(s,^)");
        Kit.treeFault(x, "b(s,^,t)");
        Kit.treeFault(x, "b(s,t^,)");
        Kit.treeFault(x, "b(s,t^,e)");
        Kit.treeFault(x, "b(^t,s)");
        Kit.treeFault(x, "b(s,^s)");
        Kit.treeFault(x, "c(s,t^)");
        Kit.treeFault(x, "c(s,t,e^,e)");
        Kit.treeFault(x, "c(s,t,a(s)^");
        Kit.treeFault(x, "e^()");
        Kit.treeFault(x, "a(s^()");
    }

    @Kit.Of(where = "Terms 3", sentence = "Nodes are numbered from 0 as they stand, at most 250.")
    static void numberedAsTheyStand() {
        AttributeHouse x = Kit.with("symbol r;p:r=#r r r{}q:r=#{}", "p 0(q 1,p 2(q 3,q 4,q 5),q 6)");
        int[] parents = {-1, 0, 0, 2, 2, 2, 0};
        Kit.is("nodes", x.count(0), 7);
        for (int n = 0; n < 7; n++) {
            Kit.is("literal of " + n, x.node(n, 2), n);
            Kit.is("parent of " + n, x.node(n, 1), parents[n]);
        }
    }

    @Kit.Of(where = "Terms 3", sentence = "Nodes are numbered from 0 as they stand, at most 250.")
    static void atMostTwoHundredAndFiftyNodes() {
        AttributeHouse x = Kit.with("symbol r;p:r=r{}e:r={}");
        Kit.fineTree(x, "e");
        Kit.is("one node", x.count(0), 1);
        Kit.fineTree(x, Kit.nest(250));
        Kit.is("nodes", x.count(0), 250);
        Kit.is("parent of the last", x.node(249, 1), 248);
        Kit.throwing("node 250", Kit.IOOBE, () -> x.node(250, 0));
        AttributeHouse y = Kit.with("symbol r;p:r=r r r{}e:r={}q:r=r r{}");
        // Each p adds three nodes: 1 + 3 * 83.
        Kit.fineTree(y, "p(e,e,".repeat(83) + "e" + ")".repeat(83));
        Kit.is("nodes by threes", y.count(0), 250);
        Kit.is("parent of the last by threes", y.node(249, 1), 246);
    }

    @Kit.Of(where = "Terms 3, the FAULT", sentence = "that can't come there (or stands behind the tree)")
    static void whatStandsBehindTheTree() {
        AttributeHouse x = Kit.with(Kit.PAIR);
        Kit.fineTree(x, "top(leaf 1) \n");
        Kit.treeFault(x, "top(leaf 1)^)");
        Kit.treeFault(x, "top(leaf 1) ^top");
        Kit.treeFault(x, "top(leaf 1)^,leaf 2");
        Kit.treeFault(x, "top(leaf 1) ^1");
        Kit.treeFault(x, "top(leaf 1)\n^(");
        Kit.treeFault(x, "top(leaf 1) ^@");
        Kit.treeFault(Kit.with("symbol r;p:r={}"), "p^.");
        Kit.treeFault(Kit.with("symbol r;p:r={}"), "p ^p");
        Kit.treeFault(Kit.with("symbol r;p:r=#{}"), "p 1^-");
    }

    @Kit.Of(where = "Terms 3, the FAULT",
            sentence = "(or sign that begins none, name or number that is too long; the end, too, as in 1)")
    static void whatIsTooLongAndTheEnd() {
        AttributeHouse x = Kit.with(Kit.PAIR);
        String text = "top(pair(more(leaf -3),leaf 9))";
        Kit.fineTree(x, text);
        Kit.treeFault(x, "top(^abcdefghi)");
        Kit.treeFault(x, "top(^leafleafleaf 1)");
        Kit.treeFault(x, "top(leaf ^1234567)");
        Kit.treeFault(x, "top(leaf -^0000001)");
        Kit.treeFault(x, "top(^Leaf 1)");
        Kit.treeFault(x, "top^[leaf 1]");
        Kit.treeFault(x, "top(leaf 1^;");
        for (String cut : new String[] {"^", "^t", "^to", "top^", "top(^", "top(^p", "top(^pai", "top(pair^", "top(pair(^",
            "top(pair(^mor", "top(pair(more^", "top(pair(more(^", "top(pair(more(^lea", "top(pair(more(leaf^",
            "top(pair(more(leaf ^", "top(pair(more(leaf -^", "top(pair(more(leaf -3^", "top(pair(more(leaf -3)^",
            "top(pair(more(leaf -3),^", "top(pair(more(leaf -3),leaf 9^", "top(pair(more(leaf -3),leaf 9)^"}) {
            Kit.treeFault(x, cut);
        }
    }

    @Kit.Of(where = "Terms 3, the FAULT", sentence = "a name that is none of a production of the symbol")
    static void namesOfOtherSymbols() {
        AttributeHouse x = Kit.with("symbol r;symbol s;symbol t;p:r=s t{}q:s={}u:t={}v:t=s{}");
        Kit.fineTree(x, "p(q,v(q))");
        Kit.treeFault(x, "^q");
        Kit.treeFault(x, "^x");
        Kit.treeFault(x, "p(^u,q)");
        Kit.treeFault(x, "p(q,^q)");
        Kit.treeFault(x, "p(^p(q,u),u)");
        Kit.treeFault(x, "p(q,v(^u))");
        Kit.treeFault(x, "p(^s,t)");
        Kit.treeFault(x, "p(^if,u)");
        // A symbol without productions has no nodes.
        Kit.treeFault(Kit.with("symbol r;symbol s;p:r=s{}"), "p(^p)");
    }

    @Kit.Of(where = "Terms 3, the FAULT", sentence = "or that is the 251st node.")
    static void theNameOfTheNodeTooMany() {
        AttributeHouse x = Kit.with("symbol r;p:r=r{}q:r=r r{}e:r={}");
        Kit.treeFault(x, "p(".repeat(250) + "^e" + ")".repeat(250));
        AttributeHouse y = Kit.with("symbol r;p:r=r{}q:r=r r{}e:r={}");
        Kit.treeFault(y, "p(" + "q(e,".repeat(124) + " q( ^e,e)" + ")".repeat(125));
        AttributeHouse z = Kit.with("symbol r;q:r=r r{}e:r={}");
        Kit.fineTree(z, "q(e,".repeat(124) + "e" + ")".repeat(124));
        Kit.is("249 nodes", z.count(0), 249);
        Kit.treeFault(z, "q(e,".repeat(125) + "^e" + ")".repeat(125));
    }

    // Values

    @Kit.Of(where = "Terms 3", sentence = "The attributes of a node are those of its symbol (occurrence 0 of its production).")
    static void asManyAsTheSymbolHas() {
        AttributeHouse x = Kit.with("symbol r up " + Kit.EIGHT + ";symbol s;p:r=s{" + Kit.eightRules(0, "9") + "}q:s={}",
                "p(q)");
        Kit.is("the last of eight", x.value(0, 7), 9);
        Kit.throwing("a ninth", Kit.IOOBE, () -> x.value(0, 8));
        Kit.throwing("the first of none", Kit.IOOBE, () -> x.value(1, 0));
    }

    @Kit.Of(where = "Terms 3", sentence = "Each is what its rule says: of an attribute up the rule in the node's production, "
            + "of one down that in its parent's.")
    static void upByItsOwnProductionDownByItsParents() {
        AttributeHouse x = Kit.with("symbol r up v;symbol s down d up u;"
                + "p:r=s s s{1.d=1;2.d=1.u*10;3.d=2.u*10;0.v=3.u;}q:s={0.u=0.d+1;}k:s={0.u=0.d+2;}", "p(q,k,q)");
        int[] down = {1, 20, 220};
        int[] up = {2, 22, 221};
        for (int n = 1; n <= 3; n++) {
            Kit.is("d of " + n, x.value(n, 0), down[n - 1]);
            Kit.is("u of " + n, x.value(n, 1), up[n - 1]);
        }
        Kit.is("v", x.value(0, 0), 221);
    }

    @Kit.Of(where = "Terms 3", sentence = "Values are ints, or the ERROR.")
    static void theLowestIntIsNotTheError() {
        for (int literal : EDGES) {
            AttributeHouse x = of(literal, 1);
            Kit.is("the literal " + literal, x.value(1, 0), literal);
            Kit.is("errors", x.count(3), 0);
        }
    }

    @Kit.Of(where = "Terms 3", sentence = "Sums, differences, products wrap;")
    static void sumsDifferencesAndProductsWrap() {
        for (int a : EDGES) {
            for (int b : EDGES) {
                AttributeHouse x = of(a, b);
                Kit.is(a + " + " + b, x.value(0, 0), a + b);
                Kit.is(a + " - " + b, x.value(0, 1), a - b);
                Kit.is(a + " * " + b, x.value(0, 2), a * b);
                Kit.is("- " + a, x.value(0, 4), -a);
            }
        }
        Kit.is("the highest and 1", of(Integer.MAX_VALUE, 1).value(0, 0), Integer.MIN_VALUE);
        Kit.is("the lowest less 1", of(Integer.MIN_VALUE, 1).value(0, 1), Integer.MAX_VALUE);
        Kit.is("65536 times itself", of(65536, 65536).value(0, 2), 0);
        Kit.is("the lowest one negated", of(Integer.MIN_VALUE, 0).value(0, 4), Integer.MIN_VALUE);
    }

    @Kit.Of(where = "Terms 3", sentence = "a / b is what Java's is, the error if b is 0;")
    static void quotientsAndTheErrorByZero() {
        for (int a : EDGES) {
            for (int b : EDGES) {
                AttributeHouse x = of(a, b);
                Kit.is(a + " / " + b, Kit.outcome(() -> x.value(0, 3)), b == 0 ? Kit.AE : "" + a / b);
            }
        }
        Kit.is("the lowest one by -1", of(Integer.MIN_VALUE, -1).value(0, 3), Integer.MIN_VALUE);
        Kit.is("-7 / 2", of(-7, 2).value(0, 3), -3);
        Kit.is("7 / -2", of(7, -2).value(0, 3), -3);
        isError("0/0");
        isError("1/#");
        isError("1/(2-2)");
        resultIs("0/1", 0);
    }

    @Kit.Of(where = "Terms 3", sentence = "< and = give 1 or 0;")
    static void comparisonsGiveOneOrNone() {
        for (int a : EDGES) {
            for (int b : EDGES) {
                AttributeHouse x = of(a, b);
                Kit.is(a + " < " + b, x.value(0, 5), a < b ? 1 : 0);
                Kit.is(a + " = " + b, x.value(0, 6), a == b ? 1 : 0);
            }
        }
    }

    @Kit.Of(where = "Terms 3", sentence = "an operation on the error gives the error;")
    static void operationsOnTheError() {
        for (String sign : new String[] {"+", "-", "*", "/", "<", "="}) {
            isError("(1/0)" + sign + "2");
            isError("2" + sign + "(1/0)");
            isError("(1/0)" + sign + "(1/0)");
            isError("0" + sign + "(1/0)");
            isError("(1/0)" + sign + "0");
        }
        isError("-(1/0)");
        isError("--(1/0)");
        // By attributes, too: v and those that it is named by are, w isn't.
        AttributeHouse x = Kit.with("symbol r up v,w;symbol s down d up u;p:r=s s{1.d=1/0;2.d=7;0.v=1.u;0.w=2.u;}"
                + "q:s={0.u=0.d+1;}", "p(q,q)");
        Kit.is("errors", x.count(3), 3);
        Kit.throwing("d", Kit.AE, () -> x.value(1, 0));
        Kit.throwing("u", Kit.AE, () -> x.value(1, 1));
        Kit.throwing("v", Kit.AE, () -> x.value(0, 0));
        Kit.is("w", x.value(0, 1), 8);
    }

    @Kit.Of(where = "Terms 3", sentence = "if: with 0 else, with another number then (what isn't taken doesn't matter), with "
            + "the error the error.")
    static void choices() {
        resultIs("if 0 then 1 else 2", 2);
        resultIs("if 1 then 1 else 2", 1);
        resultIs("if -1 then 1 else 2", 1);
        resultIs("if 65536*32768 then 1 else 2", 1);
        resultIs("if 65536*65536 then 1 else 2", 2);
        resultIs("if 1<1 then 1 else 2", 2);
        resultIs("if 0 then 1/0 else 2", 2);
        resultIs("if 3 then 1 else 1/0", 1);
        isError("if 0 then 1 else 1/0");
        isError("if 3 then 1/0 else 2");
        isError("if 1/0 then 1 else 2");
        isError("if 1/0 then 1 else 1");
        isError("if if 1/0 then 1 else 2 then 3 else 4");
        isError("5+(if 1/0 then 1 else 2)");
        resultIs("if if 0 then 1/0 else 1 then 3 else 1/0", 3);
        resultIs("if 0 then 1 else if 0 then 2 else if 7 then 3 else 4", 3);
        resultIs("if 1 then if 0 then 1 else 2 else 3", 2);
        // What isn't taken may be an attribute that is the error.
        AttributeHouse x = Kit.with("symbol r up v;symbol s up u;p:r=s{0.v=if 0 then 1.u else 5;}q:s={0.u=1/0;}", "p(q)");
        Kit.is("v", x.value(0, 0), 5);
        Kit.is("errors", x.count(3), 1);
    }
}
