/** A test for each sentence of promises 10 to 14 and 18 to 23 (trees and the machine), worked out by hand. */
public final class TreePromiseTests {
    public static void main(String[] args) {
        Kit.runAll(TreePromiseTests.class);
    }

    // Promises 10 to 14

    @Kit.Of(where = "Promise 10", sentence = "Reads the text as a tree: NONE, and it is the tree; or its fault (the tree "
            + "before stays, and its machine).")
    static void treesAndTheirFaults() {
        AttributeHouse x = Kit.with(Kit.PAIR);
        Kit.treeFault(x, "top(leaf^)");
        Kit.throwing("no tree after a fault", Kit.ISE, () -> x.count(0));
        Kit.fineTree(x, " top\n(pair ( leaf - 3 ,leaf 000007))  ");
        Kit.is("nodes", x.count(0), 4);
        Kit.fineTree(x, "top(leaf 1)");
        Kit.is("nodes of another one", x.count(0), 2);
        Kit.throwing("a node that is gone", Kit.IOOBE, () -> x.node(2, 0));
        // A tree is one of the grammar that there is then.
        Kit.is("another grammar", Kit.readGrammar(x, "symbol a;p:a={}"), Kit.NONE);
        Kit.treeFault(x, "^top(leaf 1)");
        Kit.fineTree(x, "p");
    }

    @Kit.Of(where = "Promise 10", sentence = "Reads the text as a tree: NONE, and it is the tree; or its fault (the tree "
            + "before stays, and its machine).")
    static void nothingIsLeftOfTreesBefore() {
        String grammar = "symbol r up v;p:r=#r r{0.v=1.v-2.v*#;}q:r=r{0.v=1.v/2;}e:r=#{0.v=#;}o:r={0.v=7;}";
        String[] texts = {"o", "e 5", "q(e -4)", "p 9(e 1,o)", "p 3(q(p 4(o,e 6)),q(o))", "q(q(q(o)))"};
        for (String before : texts) {
            for (String text : texts) {
                AttributeHouse x = Kit.with(grammar, before);
                Kit.fineTree(x, "o");
                Kit.fineTree(x, text);
                Kit.is("the object after " + before, Kit.picture(x), Kit.picture(Kit.with(grammar, text)));
                // A tree that ends with a fault leaves nothing, either.
                AttributeHouse y = Kit.with(grammar);
                Kit.treeFault(y, before + "^@");
                Kit.fineTree(y, text);
                Kit.is("the object after a fault of " + before, Kit.picture(y), Kit.picture(Kit.with(grammar, text)));
            }
        }
    }

    @Kit.Of(where = "Promise 10", sentence = "(the tree before stays, and its machine)")
    static void aFaultLeavesTheTreeBefore() {
        for (String marked : new String[] {"^", "^@", "p 4(^x)", "p^", "p 4(q 3)^)", "p 4(q 3^", "p 5(q ^q"}) {
            AttributeHouse stays = Kit.underWay();
            AttributeHouse same = Kit.underWay();
            same.end(0);
            Kit.append(same, marked.replace("^", ""));
            Kit.treeFault(stays, marked);
            Kit.is("the object after it", Kit.picture(stays), Kit.picture(same));
            stays.step(100);
            Kit.is("what the machine comes to", stays.held(0, 0), 28);
        }
        // A fault of a larger tree, and the literal of the one before.
        AttributeHouse x = Kit.begun("symbol r up v;p:r=#r{0.v=#+1.v;}e:r=#{0.v=#;}", "p 1(e 2)");
        Kit.treeFault(x, "p 5(p 6(p 7(p 8(e^))))");
        Kit.is("nodes", x.count(0), 2);
        Kit.is("literal", x.node(0, 2), 1);
        Kit.is("value", x.value(0, 0), 3);
        x.step(100);
        Kit.is("held", x.held(0, 0), 3);
    }

    @Kit.Of(where = "Promise 10", sentence = "IllegalStateException if there is no grammar.")
    static void treesWithoutAGrammar() {
        Kit.stateless("tree", Kit.withoutAGrammar(), x -> x.tree());
    }

    @Kit.Of(where = "Promise 11", sentence = "0 how many nodes the tree has, 1 how many attributes all of them have, 2 how many "
            + "visits their symbols have, all together, 3 how many of all attributes are the error;")
    static void countsOfNodes() {
        AttributeHouse x = Kit.with(Kit.LISTS, "root(more(one(lit 5),lit 7),one(lit 2))");
        Kit.is("nodes", x.count(0), 7);
        Kit.is("attributes", x.count(1), 1 + 3 * 3 + 3 * 2);
        Kit.is("visits", x.count(2), 1 + 3 * 2 + 3);
        // The second list's scale is -1: its literal divides by 0.
        Kit.is("errors", x.count(3), 3);
        // One node without attributes, and as many as there can be.
        AttributeHouse least = Kit.with("symbol r;p:r={}", "p");
        int[] due = {1, 0, 1, 0, 0, 0, 0};
        for (int what = 0; what <= 6; what++) {
            Kit.is("least, count(" + what + ")", least.count(what), due[what]);
        }
        AttributeHouse most = Kit.with("symbol r up " + Kit.EIGHT + ";p:r=r{" + Kit.eightRules(0, "1/0") + "}e:r={"
                + Kit.eightRules(0, "1/0") + "}", Kit.nest(250));
        int[] high = {250, 2000, 250, 2000, 2000, 0, 0};
        for (int what = 0; what <= 6; what++) {
            Kit.is("most, count(" + what + ")", most.count(what), high[what]);
        }
    }

    @Kit.Of(where = "Promise 11", sentence = "4 how many of store 2 all nodes have; 5 the most that the frames of a node and of "
            + "all above it, node 0 among them, are together; 6 how many attributes of symbols have store 0.")
    static void countsOfStores() {
        AttributeHouse x = Kit.with(Kit.LISTS, "root(more(one(lit 5),lit 7),one(lit 2))");
        Kit.is("of store 2", x.count(4), 1);
        // Frames: root 4, more 3, one 1.
        Kit.is("frames", x.count(5), 4 + 3 + 1);
        Kit.is("of store 0", x.count(6), 2);
        Kit.is("of store 2, more nodes", Kit.with(Kit.TWICE, "p 1(q 2)").count(4), 2);
        Kit.is("of store 0, without a node", Kit.with("symbol r;symbol s down d up u;p:r={}", "p").count(6), 2);
        Kit.is("of store 0, a hundred nodes", Kit.with("symbol r;symbol s up u;o:r=s{}p:s=s{0.u=1.u;}e:s={0.u=1;}",
                "o(" + Kit.nest(99) + ")").count(6), 1);
        // top 2, pair 4, more 2: the deepest is not the last one, nor the first.
        Kit.is("frames of node 0 alone", Kit.with(Kit.PAIR, "top(leaf 1)").count(5), 2);
        Kit.is("frames on the right", Kit.with(Kit.PAIR, "top(pair(leaf 1,pair(leaf 2,leaf 3)))").count(5), 10);
        Kit.is("frames on the left", Kit.with(Kit.PAIR, "top(pair(pair(leaf 1,leaf 2),leaf 3))").count(5), 10);
        Kit.is("frames between", Kit.with(Kit.PAIR, "top(pair(pair(leaf 1,more(leaf 2)),more(leaf 3)))").count(5), 12);
        Kit.is("frames one in another", Kit.with(Kit.PAIR, "top(" + "more(".repeat(200) + "leaf 1" + ")".repeat(201)).count(5),
                402);
    }

    @Kit.Of(where = "Promise 11", sentence = "IllegalStateException if there is no tree;")
    static void countsWithoutATree() {
        Kit.stateless("count", Kit.withoutATree(), x -> x.count(0), x -> x.count(6), x -> x.count(7), x -> x.count(-1));
    }

    @Kit.Of(where = "Promise 11", sentence = "IllegalArgumentException for another what.")
    static void otherCounts() {
        AttributeHouse x = Kit.with(Kit.TWICE, "p 4(q 3)");
        Kit.throwing("count(-1)", Kit.IAE, () -> x.count(-1));
        Kit.throwing("count(7)", Kit.IAE, () -> x.count(7));
        for (int far : Kit.FAR) {
            Kit.throwing("count(" + far + ")", Kit.IAE, () -> x.count(far));
        }
    }

    @Kit.Of(where = "Promise 12",
            sentence = "Of a node: 0 its production, 1 its parent (NONE), 2 its literal (0 without), 3 its symbol.")
    static void nodes() {
        AttributeHouse x = Kit.with(Kit.PAIR, "top(pair(more(leaf -3),leaf 9))");
        int[][] due = {{0, -1, 0, 0}, {3, 0, 0, 1}, {1, 1, 0, 1}, {2, 2, -3, 1}, {2, 1, 9, 1}};
        for (int n = 0; n < 5; n++) {
            for (int what = 0; what < 4; what++) {
                Kit.is("node(" + n + ", " + what + ")", x.node(n, what), due[n][what]);
            }
        }
        // Where a literal was there is none in the next tree.
        AttributeHouse y = Kit.with("symbol r;p:r=#r{}e:r={}q:r=r{}", "p 7(e)");
        Kit.is("a literal", y.node(0, 2), 7);
        Kit.fineTree(y, "q(p -7(e))");
        Kit.is("without", y.node(0, 2), 0);
        Kit.is("with", y.node(1, 2), -7);
        Kit.is("parent of node 0", y.node(0, 1), Kit.NONE);
    }

    @Kit.Of(where = "Promise 12", sentence = "IllegalStateException if there is no tree;")
    static void nodesWithoutATree() {
        Kit.stateless("node", Kit.withoutATree(), x -> x.node(0, 0), x -> x.node(-1, 0), x -> x.node(0, 4));
    }

    @Kit.Of(where = "Promise 12", sentence = "IndexOutOfBoundsException if there is no such node;")
    static void nodesThatThereAreNot() {
        AttributeHouse x = Kit.with(Kit.TWICE, "p 4(q 3)");
        for (int what = 0; what < 4; what++) {
            int w = what;
            Kit.throwing("node(-1, " + w + ")", Kit.IOOBE, () -> x.node(-1, w));
            Kit.throwing("node(2, " + w + ")", Kit.IOOBE, () -> x.node(2, w));
        }
        for (int far : Kit.FAR) {
            Kit.throwing("node(" + far + ", 0)", Kit.IOOBE, () -> x.node(far, 0));
        }
        AttributeHouse full = Kit.with("symbol r;p:r=r{}e:r={}", Kit.nest(250));
        Kit.is("node(249, 0)", full.node(249, 0), 1);
        Kit.throwing("node(250, 0)", Kit.IOOBE, () -> full.node(250, 0));
    }

    @Kit.Of(where = "Promise 12", sentence = "IllegalArgumentException for another what.")
    static void otherPartsOfNodes() {
        AttributeHouse x = Kit.with(Kit.TWICE, "p 4(q 3)");
        Kit.throwing("node(0, -1)", Kit.IAE, () -> x.node(0, -1));
        Kit.throwing("node(1, 4)", Kit.IAE, () -> x.node(1, 4));
        for (int far : Kit.FAR) {
            Kit.throwing("node(0, " + far + ")", Kit.IAE, () -> x.node(0, far));
        }
    }

    @Kit.Of(where = "Promise 13", sentence = "The value of an attribute of a node.")
    static void values() {
        AttributeHouse x = Kit.with(Kit.PAIR, "top(pair(more(leaf -3),leaf 9))");
        int[][] due = {{17}, {5, 16}, {5, 13}, {10, 13}, {6, -3}};
        for (int n = 0; n < 5; n++) {
            for (int a = 0; a < due[n].length; a++) {
                Kit.is("value(" + n + ", " + a + ")", x.value(n, a), due[n][a]);
            }
        }
        // A machine that runs has nothing to do with it.
        x.begin();
        x.step(3);
        Kit.is("value(0, 0) under way", x.value(0, 0), 17);
        AttributeHouse deep = Kit.with("symbol r up v;p:r=r{0.v=1.v+1;}e:r={0.v=1;}", Kit.nest(250));
        Kit.is("at the top of 250", deep.value(0, 0), 250);
        Kit.is("at the bottom", deep.value(249, 0), 1);
    }

    @Kit.Of(where = "Promise 13", sentence = "IllegalStateException if there is no tree;")
    static void valuesWithoutATree() {
        Kit.stateless("value", Kit.withoutATree(), x -> x.value(0, 0), x -> x.value(-1, 0), x -> x.value(0, -1));
    }

    @Kit.Of(where = "Promise 13", sentence = "IndexOutOfBoundsException if there is no such node or attribute;")
    static void valuesThatThereAreNot() {
        AttributeHouse x = Kit.with(Kit.TWICE, "p 4(q 3)");
        Kit.throwing("value(-1, 0)", Kit.IOOBE, () -> x.value(-1, 0));
        Kit.throwing("value(2, 0)", Kit.IOOBE, () -> x.value(2, 0));
        Kit.throwing("value(0, 1)", Kit.IOOBE, () -> x.value(0, 1));
        Kit.throwing("value(0, -1)", Kit.IOOBE, () -> x.value(0, -1));
        Kit.throwing("value(1, 4)", Kit.IOOBE, () -> x.value(1, 4));
        Kit.throwing("value(1, -1)", Kit.IOOBE, () -> x.value(1, -1));
        for (int far : Kit.FAR) {
            Kit.throwing("value(" + far + ", 0)", Kit.IOOBE, () -> x.value(far, 0));
            Kit.throwing("value(1, " + far + ")", Kit.IOOBE, () -> x.value(1, far));
        }
        AttributeHouse none = Kit.with("symbol a;p:a={}", "p");
        Kit.throwing("without attributes", Kit.IOOBE, () -> none.value(0, 0));
    }

    @Kit.Of(where = "Promise 13", sentence = "ArithmeticException if it is the error.")
    static void valuesThatAreTheError() {
        AttributeHouse x = Kit.with(Kit.ERRORS, "p(n 7,n 0)");
        Kit.throwing("7 / 0", Kit.AE, () -> x.value(0, 0));
        Kit.throwing("if error", Kit.AE, () -> x.value(0, 1));
        Kit.is("an error that isn't taken", x.value(0, 2), 7);
        Kit.throwing("an error compared", Kit.AE, () -> x.value(0, 3));
        Kit.is("0 is none", x.value(2, 0), 0);
        Kit.fineTree(x, "p(n -7,n 2)");
        Kit.is("-7 / 2", x.value(0, 0), -3);
        Kit.is("if -3", x.value(0, 1), 1);
        Kit.is("if 2", x.value(0, 2), -3);
        Kit.is("(-3 < 1) + 3", x.value(0, 3), 4);
    }

    @Kit.Of(where = "Promise 14", sentence = "A node's literal becomes another one: of how many attributes the value is another "
            + "one then (or becomes the error, or is it no more).")
    static void changes() {
        AttributeHouse x = Kit.with(Kit.ERRORS, "p(n 7,n 0)");
        Kit.is("to the same", x.change(1, 7), 0);
        // n's own value; q, i and c stay the error, t stays 7.
        Kit.is("to another, errors stay", x.change(1, 8), 1);
        Kit.is("errors go", x.change(2, 2), 5);
        Kit.is("its literal", x.node(2, 2), 2);
        Kit.is("8 / 2", x.value(0, 0), 4);
        Kit.is("errors", x.count(3), 0);
        Kit.is("errors come", x.change(2, 0), 5);
        Kit.throwing("8 / 0", Kit.AE, () -> x.value(0, 0));
        Kit.is("errors then", x.count(3), 3);
        Kit.is("the lowest literal", x.change(1, Integer.MIN_VALUE), 1);
        Kit.is("by -1", x.change(2, -1), 5);
        Kit.is("wraps", x.value(0, 0), Integer.MIN_VALUE);
        Kit.is("the highest literal, i stays 1", x.change(1, Integer.MAX_VALUE), 4);
        Kit.is("value", x.value(0, 0), -Integer.MAX_VALUE);
        // A literal that no rule names, and one that makes no difference.
        AttributeHouse y = Kit.with("symbol r up v,w;p:r=#{0.v=1;0.w=#*0;}", "p 5");
        Kit.is("no value is another one", y.change(0, 9), 0);
        Kit.is("but the literal", y.node(0, 2), 9);
        AttributeHouse most = Kit.with("symbol r up " + Kit.EIGHT + ";p:r=r{" + Kit.eightRules(0, "1.a") + "}e:r=#{"
                + Kit.eightRules(0, "#") + "}", Kit.nest(250).replace("e", "e 1"));
        Kit.is("all of 250 nodes", most.change(249, 2), 2000);
        Kit.is("none of them", most.change(249, 2), 0);
    }

    @Kit.Of(where = "Promise 14", sentence = "A machine that has begun goes on (with the new literal).")
    static void aMachineGoesOnWithTheNewLiteral() {
        AttributeHouse y = Kit.begun(Kit.CHAIN, "top(leaf 3)");
        y.step(4);
        Kit.is("a change under way", y.change(1, 100), 2);
        Kit.machineIs(y, 17, 2, 1, 4, 1, 21);
        Kit.is("the value on the stack", y.top(0), 5);
        y.step(100);
        Kit.is("it takes the new literal", y.held(0, 0), 5 - 100 + 1);
        Kit.is("and is over", y.machine(3), 13);
        // Behind LITERAL the old one is on the stack, and is used.
        AttributeHouse late = Kit.begun(Kit.CHAIN, "top(leaf 3)");
        late.step(5);
        late.change(1, 100);
        Kit.is("the old one", late.top(0), 3);
        late.step(100);
        Kit.is("what it comes to", late.held(0, 0), 5 - 3 + 1);
        Kit.is("what the value is", late.value(0, 0), 5 - 100 + 1);
        // When it is over it stays so; when it has not begun it doesn't begin.
        late.change(1, 4);
        Kit.is("over", late.machine(0), Kit.NONE);
        Kit.is("what it kept", late.held(0, 0), 5 - 3 + 1);
        AttributeHouse still = Kit.with(Kit.CHAIN, "top(leaf 3)");
        still.change(1, 4);
        Kit.throwing("not begun", Kit.ISE, () -> still.step(1));
    }

    @Kit.Of(where = "Promise 14", sentence = "IllegalStateException if there is no tree;")
    static void changesWithoutATree() {
        Kit.stateless("change", Kit.withoutATree(), x -> x.change(0, 0), x -> x.change(-1, 0));
    }

    @Kit.Of(where = "Promise 14", sentence = "IndexOutOfBoundsException if there is no such node;")
    static void changesOfNoNode() {
        AttributeHouse x = Kit.with(Kit.TWICE, "p 4(q 3)");
        Kit.throwing("change(-1, 0)", Kit.IOOBE, () -> x.change(-1, 0));
        Kit.throwing("change(2, 0)", Kit.IOOBE, () -> x.change(2, 0));
        for (int far : Kit.FAR) {
            Kit.throwing("change(" + far + ", 0)", Kit.IOOBE, () -> x.change(far, 0));
        }
        AttributeHouse full = Kit.with("symbol r;p:r=r{}e:r=#{}", Kit.nest(250).replace("e", "e 1"));
        Kit.is("change(249, 0)", full.change(249, 0), 0);
        Kit.throwing("change(250, 0)", Kit.IOOBE, () -> full.change(250, 0));
    }

    @Kit.Of(where = "Promise 14", sentence = "IllegalArgumentException if its production has no literal.")
    static void changesWithoutALiteral() {
        AttributeHouse x = Kit.with(Kit.CHAIN, "top(more(leaf 3))");
        Kit.throwing("change(0, 0)", Kit.IAE, () -> x.change(0, 0));
        Kit.throwing("change(1, 7)", Kit.IAE, () -> x.change(1, 7));
        Kit.is("its literal", x.node(1, 2), 0);
        Kit.is("change(2, 4)", x.change(2, 4), 3);
    }

    // Promises 18 to 23

    @Kit.Of(where = "Promise 18", sentence = "The program's machine begins on the tree: its place.")
    static void begins() {
        AttributeHouse x = Kit.with("symbol r up v;p:r={0.v=1;}q:r=#{0.v=#;}", "q 5");
        Kit.is("begin", x.begin(), 3);
        x.step(100);
        Kit.is("it is over", x.machine(0), Kit.NONE);
        Kit.is("it begins again", x.begin(), 3);
        Kit.machineIs(x, 3, 1, 0, 0, 0, 6);
        Kit.is("all 0", x.held(0, 0), 0);
        x.step(1);
        Kit.is("it begins in its midst", x.begin(), 3);
        Kit.machineIs(x, 3, 1, 0, 0, 0, 6);
        Kit.fineTree(x, "p");
        Kit.is("begin of another production", x.begin(), 0);
        AttributeHouse last = Kit.with("symbol a;" + Kit.productions(30, ":a={}"), Kit.name(29));
        Kit.is("begin of the last production", last.begin(), 29);
    }

    @Kit.Of(where = "Promise 18", sentence = "IllegalStateException if there is no tree.")
    static void beginsWithoutATree() {
        Kit.stateless("begin", Kit.withoutATree(), x -> x.begin());
    }

    @Kit.Of(where = "Promise 19", sentence = "It does n instructions, or as many as there are till it is over (then none): "
            + "how many.")
    static void steps() {
        AttributeHouse x = Kit.begun(Kit.CHAIN, "top(leaf 3)");
        Kit.is("step(0)", x.step(0), 0);
        Kit.is("step(5)", x.step(5), 5);
        Kit.is("step(8), as many as there are", x.step(8), 8);
        Kit.is("step(0) when it is over", x.step(0), 0);
        Kit.is("step(1) when it is over", x.step(1), 0);
        Kit.is("step(100000) when it is over", x.step(100000), 0);
        Kit.is("instructions done", x.machine(3), 13);
        x.begin();
        Kit.is("all but one", x.step(12), 12);
        Kit.is("it isn't over", x.machine(0), 7);
        Kit.is("one too many", x.step(2), 1);
        x.begin();
        Kit.is("many too many", x.step(100000), 13);
        Kit.is("what comes out", x.held(0, 0), x.value(0, 0));
    }

    @Kit.Of(where = "Promise 19", sentence = "IllegalStateException if it has not begun since there is this tree;")
    static void stepsThatHaveNotBegun() {
        Kit.stateless("step", Kit.withoutAMachine(), x -> x.step(0), x -> x.step(1), x -> x.step(-1), x -> x.step(100001));
        Kit.stateless("step", Kit.withoutATree(), x -> x.step(0));
    }

    @Kit.Of(where = "Promise 19", sentence = "IllegalArgumentException if n isn't 0 .. 100000.")
    static void stepsBelowNoneAndAboveTheMost() {
        // 250 nodes with some 400 instructions each: more than 100000 in all.
        AttributeHouse x = Kit.begun("symbol r up v;p:r=r{0.v=1.v" + "+1".repeat(210) + ";}e:r={0.v=1;}", Kit.nest(250));
        Kit.throwing("step(-1)", Kit.IAE, () -> x.step(-1));
        Kit.throwing("step(100001)", Kit.IAE, () -> x.step(100001));
        for (int far : Kit.FAR) {
            Kit.throwing("step(" + far + ")", Kit.IAE, () -> x.step(far));
        }
        Kit.is("none of them was done", x.machine(3), 0);
        Kit.is("step(0)", x.step(0), 0);
        Kit.is("step(100000)", x.step(100000), 100000);
        int all = 249 * (1 + 421 + 1 + 1) + 3;
        Kit.is("the rest", x.step(100000), all - 100000);
        Kit.is("instructions done", x.machine(3), all);
        Kit.is("what comes out", x.held(0, 0), 249 * 210 + 1);
        Kit.throwing("step(-1) when it is over", Kit.IAE, () -> x.step(-1));
        Kit.throwing("step(100001) when it is over", Kit.IAE, () -> x.step(100001));
    }

    @Kit.Of(where = "Promise 20", sentence = "0 its place, 1 how many nodes are under way, 2 how many values the stack has, 3 how "
            + "many instructions it has done, 4 the node under way that came last;")
    static void machines() {
        AttributeHouse x = Kit.begun(Kit.CHAIN, "top(more(leaf 3))");
        Kit.machineIs(x, 0, 1, 0, 0, 0, 21);
        x.step(1);
        Kit.machineIs(x, 1, 1, 1, 1, 0, 21);
        x.step(2);
        Kit.machineIs(x, 8, 2, 0, 3, 1, 21);
        x.step(2);
        Kit.machineIs(x, 10, 2, 2, 5, 1, 21);
        x.step(3);
        Kit.machineIs(x, 16, 3, 0, 8, 2, 21);
        x.step(0);
        Kit.machineIs(x, 16, 3, 0, 8, 2, 21);
    }

    @Kit.Of(where = "Promise 20", sentence = "0 and 4 NONE, 1 and 2 0, if it is over; 5 how many instructions the program has.")
    static void aMachineThatIsOver() {
        AttributeHouse x = Kit.begun(Kit.CHAIN, "top(leaf 3)");
        x.step(12);
        Kit.machineIs(x, 7, 1, 0, 12, 0, 21);
        x.step(1);
        Kit.machineIs(x, Kit.NONE, 0, 0, 13, Kit.NONE, 21);
        x.step(100);
        Kit.machineIs(x, Kit.NONE, 0, 0, 13, Kit.NONE, 21);
        AttributeHouse least = Kit.begun("symbol a;p:a={}", "p");
        Kit.machineIs(least, 0, 1, 0, 0, 0, 1);
        least.step(1);
        Kit.machineIs(least, Kit.NONE, 0, 0, 1, Kit.NONE, 1);
        // The program is all of the grammar's, not of the tree's productions alone.
        AttributeHouse more = Kit.begun("symbol a;" + Kit.productions(30, ":a={}"), Kit.name(3));
        Kit.is("machine(5)", more.machine(5), 30);
    }

    @Kit.Of(where = "Promise 20", sentence = "IllegalStateException as for step();")
    static void machinesThatHaveNotBegun() {
        Kit.stateless("machine", Kit.withoutAMachine(), x -> x.machine(0), x -> x.machine(5), x -> x.machine(6),
                x -> x.machine(-1));
    }

    @Kit.Of(where = "Promise 20", sentence = "IllegalArgumentException for another what.")
    static void otherPartsOfMachines() {
        AttributeHouse x = Kit.begun(Kit.CHAIN, "top(leaf 3)");
        for (int round = 0; round < 2; round++) {
            Kit.throwing("machine(-1)", Kit.IAE, () -> x.machine(-1));
            Kit.throwing("machine(6)", Kit.IAE, () -> x.machine(6));
            for (int far : Kit.FAR) {
                Kit.throwing("machine(" + far + ")", Kit.IAE, () -> x.machine(far));
            }
            x.step(100);
        }
    }

    @Kit.Of(where = "Promise 21", sentence = "Variable k.")
    static void variables() {
        AttributeHouse x = Kit.begun(Kit.CHAIN, "top(more(leaf 3))");
        Kit.is("d, all 0", x.alone(0), 0);
        x.step(2);
        Kit.is("d of more", x.alone(0), 5);
        x.step(5);
        Kit.is("d of leaf", x.alone(0), 10);
        Kit.is("u, not yet", x.alone(1), 0);
        x.step(100);
        Kit.is("u, when it is over", x.alone(1), 7);
        Kit.is("d, when it is over", x.alone(0), 10);
    }

    @Kit.Of(where = "Promise 21", sentence = "IllegalStateException as for step();")
    static void variablesThatHaveNotBegun() {
        Kit.stateless("alone", Kit.withoutAMachine(), x -> x.alone(0), x -> x.alone(-1), x -> x.alone(9));
    }

    @Kit.Of(where = "Promise 21", sentence = "IndexOutOfBoundsException if there is none;")
    static void variablesThatThereAreNot() {
        AttributeHouse x = Kit.begun(Kit.CHAIN, "top(more(leaf 3))");
        Kit.throwing("alone(-1)", Kit.IOOBE, () -> x.alone(-1));
        Kit.throwing("alone(2)", Kit.IOOBE, () -> x.alone(2));
        for (int far : Kit.FAR) {
            Kit.throwing("alone(" + far + ")", Kit.IOOBE, () -> x.alone(far));
        }
        AttributeHouse none = Kit.begun("symbol r up v;p:r={0.v=1;}", "p");
        Kit.throwing("without variables", Kit.IOOBE, () -> none.alone(0));
        StringBuilder most = new StringBuilder("symbol a;");
        for (char s = 'b'; s <= 'l'; s++) {
            most.append("symbol ").append(s).append(" up ").append(Kit.EIGHT).append(';');
        }
        AttributeHouse full = Kit.begun(most + "p:a=l{}q:l={" + Kit.eightRules(0, "7") + "}", "p(q)");
        full.step(100);
        Kit.is("alone(79)", full.alone(79), 0);
        Kit.is("alone(80)", full.alone(80), 7);
        Kit.is("alone(87)", full.alone(87), 7);
        Kit.throwing("alone(88)", Kit.IOOBE, () -> full.alone(88));
    }

    @Kit.Of(where = "Promise 21", sentence = "ArithmeticException if it is the error.")
    static void variablesThatAreTheError() {
        AttributeHouse x = Kit.begun("symbol r up v;symbol s up w;p:r=s{0.v=if 0 then 1.w else 2;}q:s={0.w=1/0;}", "p(q)");
        Kit.is("before", x.alone(0), 0);
        x.step(100);
        Kit.throwing("a variable that is the error", Kit.AE, () -> x.alone(0));
        Kit.is("what it comes to", x.held(0, 0), 2);
        x.begin();
        Kit.is("0 again", x.alone(0), 0);
    }

    @Kit.Of(where = "Promise 22", sentence = "The value of the stack that has k others above it.")
    static void valuesOfTheStack() {
        AttributeHouse x = Kit.begun("symbol r up v;p:r={0.v=1-2*(3-4);}", "p");
        x.step(4);
        for (int k = 0; k < 4; k++) {
            Kit.is("top(" + k + ")", x.top(k), 4 - k);
        }
        x.step(1);
        Kit.is("3 - 4", x.top(0), -1);
        Kit.is("below it", x.top(1), 2);
        Kit.is("at the bottom", x.top(2), 1);
        x.step(2);
        Kit.is("1 - 2 * -1", x.top(0), 3);
    }

    @Kit.Of(where = "Promise 22", sentence = "Exceptions as for alone().")
    static void valuesOfTheStackThatThereAreNot() {
        Kit.stateless("top", Kit.withoutAMachine(), x -> x.top(0), x -> x.top(-1), x -> x.top(9));
        AttributeHouse x = Kit.begun("symbol r up v;p:r={0.v=1-2*(3/0);}", "p");
        Kit.throwing("of an empty stack", Kit.IOOBE, () -> x.top(0));
        x.step(4);
        Kit.is("top(3)", x.top(3), 1);
        Kit.throwing("top(4)", Kit.IOOBE, () -> x.top(4));
        Kit.throwing("top(-1)", Kit.IOOBE, () -> x.top(-1));
        for (int far : Kit.FAR) {
            Kit.throwing("top(" + far + ")", Kit.IOOBE, () -> x.top(far));
        }
        x.step(1);
        Kit.throwing("3 / 0", Kit.AE, () -> x.top(0));
        Kit.is("below the error", x.top(1), 2);
        Kit.throwing("top(3) of three", Kit.IOOBE, () -> x.top(3));
        x.step(3);
        Kit.throwing("behind SET", Kit.IOOBE, () -> x.top(0));
        x.step(100);
        Kit.throwing("when it is over", Kit.IOOBE, () -> x.top(0));
    }

    @Kit.Of(where = "Promise 23", sentence = "What the machine keeps of an attribute with a node.")
    static void whatIsHeld() {
        AttributeHouse x = Kit.begun(Kit.TWICE, "p 4(q 3)");
        Kit.is("a of q, not yet", x.held(1, 0), 0);
        x.step(1);
        Kit.is("a of q, on the stack", x.held(1, 0), 0);
        x.step(1);
        Kit.is("a of q", x.held(1, 0), 4);
        x.step(15);
        Kit.is("v, not yet", x.held(0, 0), 0);
        x.step(1);
        Kit.is("v", x.held(0, 0), 28);
        x.step(1);
        Kit.is("when it is over", x.held(0, 0) + x.held(1, 0), 32);
        // Each node has its own, up to the last one of 250 and the eighth attribute.
        AttributeHouse full = Kit.begun("symbol r up " + Kit.EIGHT + ";p:r=r{" + Kit.eightRules(0, "1.a+1") + "}e:r={"
                + Kit.eightRules(0, "1") + "}", Kit.nest(250));
        full.step(100000);
        for (int n = 0; n < 250; n += 83) {
            Kit.is("held(" + n + ", 0)", full.held(n, 0), 250 - n);
            Kit.is("held(" + n + ", 7)", full.held(n, 7), 250 - n);
        }
    }

    @Kit.Of(where = "Promise 23", sentence = "IllegalStateException as for step();")
    static void whatIsHeldHasNotBegun() {
        Kit.stateless("held", Kit.withoutAMachine(), x -> x.held(0, 0), x -> x.held(-1, 0), x -> x.held(1, 1));
    }

    @Kit.Of(where = "Promise 23", sentence = "IndexOutOfBoundsException if there is no such node or attribute;")
    static void whatIsHeldOfNoAttribute() {
        AttributeHouse x = Kit.begun(Kit.TWICE, "p 4(q 3)");
        Kit.throwing("held(-1, 0)", Kit.IOOBE, () -> x.held(-1, 0));
        Kit.throwing("held(2, 0)", Kit.IOOBE, () -> x.held(2, 0));
        Kit.throwing("held(0, -1)", Kit.IOOBE, () -> x.held(0, -1));
        Kit.throwing("held(0, 1)", Kit.IOOBE, () -> x.held(0, 1));
        Kit.throwing("held(1, -1)", Kit.IOOBE, () -> x.held(1, -1));
        Kit.throwing("held(1, 4)", Kit.IOOBE, () -> x.held(1, 4));
        for (int far : Kit.FAR) {
            Kit.throwing("held(" + far + ", 0)", Kit.IOOBE, () -> x.held(far, 0));
            Kit.throwing("held(1, " + far + ")", Kit.IOOBE, () -> x.held(1, far));
        }
    }

    @Kit.Of(where = "Promise 23", sentence = "IllegalArgumentException if it isn't of store 2;")
    static void whatIsNotHeld() {
        AttributeHouse x = Kit.begun(Kit.TWICE, "p 4(q 3)");
        for (int a = 1; a < 4; a++) {
            int attribute = a;
            Kit.throwing("held of store 0", Kit.IAE, () -> x.held(1, attribute));
        }
        x.step(100);
        Kit.throwing("held of store 0 when it is over", Kit.IAE, () -> x.held(1, 1));
        AttributeHouse y = Kit.begun(Kit.PAIR, "top(leaf 1)");
        Kit.throwing("held of store 1, down", Kit.IAE, () -> y.held(1, 0));
        Kit.throwing("held of store 1, up", Kit.IAE, () -> y.held(1, 1));
        Kit.is("the root's", y.held(0, 0), 0);
    }

    @Kit.Of(where = "Promise 23", sentence = "ArithmeticException if it is the error.")
    static void whatIsHeldIsTheError() {
        AttributeHouse x = Kit.begun(Kit.rule("1/#"), "p 0");
        x.step(3);
        Kit.is("on the stack yet", x.held(0, 0), 0);
        x.step(1);
        Kit.throwing("held", Kit.AE, () -> x.held(0, 0));
        x.step(1);
        Kit.throwing("held when it is over", Kit.AE, () -> x.held(0, 0));
        x.change(0, 1);
        Kit.throwing("held when the value is no error any more", Kit.AE, () -> x.held(0, 0));
        Kit.is("its value", x.value(0, 0), 1);
        x.begin();
        Kit.is("held of a new begin", x.held(0, 0), 0);
        // The lowest int isn't it.
        x.step(100);
        AttributeHouse low = Kit.begun(Kit.rule("#"), "p 0");
        low.change(0, Integer.MIN_VALUE);
        low.step(1);
        Kit.is("the lowest int on the stack", low.top(0), Integer.MIN_VALUE);
        low.step(1);
        Kit.is("the lowest int held", low.held(0, 0), Integer.MIN_VALUE);
    }
}
