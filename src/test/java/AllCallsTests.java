import java.lang.reflect.Constructor;
import java.lang.reflect.Executable;
import java.lang.reflect.Field;
import java.lang.reflect.Member;
import java.lang.reflect.Method;
import java.lang.reflect.Modifier;
import java.util.Arrays;
import java.util.TreeSet;
import java.util.stream.Collectors;

/** A test for each sentence that the document says of its face and of all calls. */
public final class AllCallsTests {
    public static void main(String[] args) {
        Kit.runAll(AllCallsTests.class);
    }

    // The face, and what is said of all calls

    private static final String FACE = """
            public final class AttributeHouse {
                public static final int NONE = -1;
                public AttributeHouse();
                public int put(int signs) throws IllegalArgumentException, UnsupportedOperationException;
                public void end(int n) throws IllegalArgumentException;
                public int grammar();
                public int size(int what) throws IllegalStateException, IllegalArgumentException;
                public boolean depends(int symbol, int a, int b) throws IllegalStateException, IllegalArgumentException;
                public int level(int symbol, int a) throws IllegalStateException, IllegalArgumentException;
                public int plan(int production, int visit, int i) throws IllegalStateException, IllegalArgumentException;
                public int store(int symbol, int a) throws IllegalStateException, IllegalArgumentException;
                public int tree() throws IllegalStateException;
                public int count(int what) throws IllegalStateException, IllegalArgumentException;
                public int node(int n, int what) throws IllegalStateException, IndexOutOfBoundsException, IllegalArgumentException;
                public int value(int n, int a) throws IllegalStateException, IndexOutOfBoundsException, ArithmeticException;
                public int change(int n, int literal) throws IllegalStateException, IndexOutOfBoundsException, IllegalArgumentException;
                public int visit(int symbol, int visit) throws IllegalStateException, IllegalArgumentException;
                public int code(int i, int what) throws IllegalStateException, IndexOutOfBoundsException, IllegalArgumentException;
                public int start(int production, int visit) throws IllegalStateException, IllegalArgumentException;
                public int begin() throws IllegalStateException;
                public int step(int n) throws IllegalStateException, IllegalArgumentException;
                public int machine(int what) throws IllegalStateException, IllegalArgumentException;
                public int alone(int k) throws IllegalStateException, IndexOutOfBoundsException, ArithmeticException;
                public int top(int k) throws IllegalStateException, IndexOutOfBoundsException, ArithmeticException;
                public int held(int node, int a) throws IllegalStateException, IndexOutOfBoundsException, IllegalArgumentException, ArithmeticException;
            }
            """;

    @Kit.Of(where = "The public face", sentence = FACE)
    static void theFaceAndNothingElse() {
        TreeSet<String> due = new TreeSet<>();
        for (String line : FACE.replaceAll("[;{}]", "").split("\n")) {
            // The names of what a call takes are free.
            due.add(line.trim().replaceAll("int [a-z]+(?=[,)])", "int"));
        }
        due.remove("");
        Kit.is("the face", String.join("\n  ", faceOfTheClass()), String.join("\n  ", due));
    }

    /** All that isn't private, in the form in which the document has it. */
    private static TreeSet<String> faceOfTheClass() {
        Class<?> its = AttributeHouse.class;
        TreeSet<String> found = new TreeSet<>();
        found.add(Modifier.toString(its.getModifiers()) + " class " + its.getName());
        for (Field f : its.getDeclaredFields()) {
            if (isSeen(f)) {
                found.add(Modifier.toString(f.getModifiers()) + " " + f.getType() + " " + f.getName() + " = "
                        + AttributeHouse.NONE);
            }
        }
        for (Constructor<?> c : its.getDeclaredConstructors()) {
            found.add(Modifier.toString(c.getModifiers()) + " " + c.getName() + calledWith(c));
        }
        for (Method m : its.getDeclaredMethods()) {
            if (isSeen(m)) {
                found.add(Modifier.toString(m.getModifiers()) + " " + m.getReturnType() + " " + m.getName() + calledWith(m));
            }
        }
        return found;
    }

    private static boolean isSeen(Member member) {
        return !Modifier.isPrivate(member.getModifiers()) && !member.isSynthetic();
    }

    private static String calledWith(Executable call) {
        String takes = names(call.getParameterTypes());
        String throwing = names(call.getExceptionTypes());
        return "(" + takes + ")" + (throwing.isEmpty() ? "" : " throws " + throwing);
    }

    private static String names(Class<?>[] types) {
        return Arrays.stream(types).map(Class::getSimpleName).collect(Collectors.joining(", "));
    }

    @Kit.Of(where = "Terms", sentence = "The constants: `NONE = -1`: There is none.")
    static void theConstant() {
        Kit.is("NONE", AttributeHouse.NONE, -1);
    }

    @Kit.Of(where = "What it is", sentence = "An object is used for at most 512 calls after it has been made;")
    static void fiveHundredAndTwelveCalls() {
        AttributeHouse x = new AttributeHouse();
        String tree = "p 4(q 3)";
        Kit.append(x, Kit.TWICE);
        Kit.is("grammar()", x.grammar(), Kit.NONE);
        x.end(0);
        Kit.append(x, tree);
        Kit.is("tree()", x.tree(), Kit.NONE);
        Kit.is("begin()", x.begin(), 0);
        int calls = (Kit.TWICE.length() + 3) / 4 + (tree.length() + 3) / 4 + 4;
        for (int i = calls; i < 511; i++) {
            Kit.is("step(0)", x.step(0), 0);
        }
        Kit.is("the 512th call", x.step(100000), 19);
    }

    /** A call on x is refused, and x is then as y, which was made in the same way. */
    private static void refuse(String what, AttributeHouse x, AttributeHouse y, String due, Kit.CallOn call) {
        Kit.throwing(what, due, () -> call.run(x));
        Kit.is("the object after " + what, Kit.picture(x), Kit.picture(y));
        // The text is the same one, too.
        Kit.is("tree() after " + what, Kit.outcome(() -> x.tree()), Kit.outcome(() -> y.tree()));
        Kit.is("grammar() after " + what, x.grammar(), y.grammar());
    }

    private static void refuseAfresh(String what, String due, Kit.CallOn call) {
        refuse(what + " of a new object", Kit.fresh(), Kit.fresh(), due, call);
        refuse(what + " after a fault", Kit.afterAFault(), Kit.afterAFault(), due, call);
    }

    private static void refuseUnderWay(String what, String due, Kit.CallOn call) {
        refuse(what, Kit.underWay(), Kit.underWay(), due, call);
    }

    @Kit.Of(where = "Terms", sentence = "A call that throws changes nothing.")
    static void refusedCallsOfTheTextChangeNothing() {
        refuseUnderWay("put(1)", Kit.IAE, x -> x.put(1));
        refuseUnderWay("put of a good and a bad sign", Kit.IAE, x -> x.put('p' | 127 << 8));
        refuseUnderWay("put of three good and a bad sign", Kit.IAE, x -> x.put('p' | 'p' << 8 | 'p' << 16 | 128 << 24));
        refuseUnderWay("end(-1)", Kit.IAE, x -> Kit.end(x, -1));
        refuseUnderWay("end(9)", Kit.IAE, x -> Kit.end(x, 9));
        refuseAfresh("put(-1)", Kit.IAE, x -> x.put(-1));
        refuse("end(1)", Kit.fresh(), Kit.fresh(), Kit.IAE, x -> Kit.end(x, 1));
    }

    @Kit.Of(where = "Terms", sentence = "A call that throws changes nothing.")
    static void aRefusedPutIntoAFullTextChangesNothing() {
        AttributeHouse[] two = {new AttributeHouse(), new AttributeHouse()};
        String full = "symbol a;" + " ".repeat(2382) + "p:a={}";
        for (AttributeHouse x : two) {
            Kit.append(x, full);
            x.put('#' | '#' << 8);
        }
        Kit.is("signs", two[0].put(0), 2399);
        // One more would fit, two don't: none is taken.
        refuse("put", two[0], two[1], Kit.UOE, x -> x.put('#' | '#' << 8));
        Kit.is("signs then", two[0].put(0), 2399);
        Kit.is("one", two[0].put('#'), 2400);
        Kit.throwing("one more", Kit.UOE, () -> two[0].put('#'));
        Kit.is("signs at last", two[0].put(0), 2400);
    }

    @Kit.Of(where = "Terms", sentence = "A call that throws changes nothing.")
    static void refusedCallsOfAGrammarChangeNothing() {
        refuseUnderWay("size(2)", Kit.IAE, x -> x.size(2));
        refuseUnderWay("depends", Kit.IAE, x -> x.depends(1, 4, 0) ? 1 : 0);
        refuseUnderWay("level", Kit.IAE, x -> x.level(1, 4));
        refuseUnderWay("plan", Kit.IAE, x -> x.plan(0, 2, 0));
        refuseUnderWay("store", Kit.IAE, x -> x.store(1, 4));
        refuseUnderWay("visit", Kit.IAE, x -> x.visit(1, 3));
        refuseUnderWay("code", Kit.IOOBE, x -> x.code(19, 0));
        refuseUnderWay("code", Kit.IAE, x -> x.code(0, 2));
        refuseUnderWay("start", Kit.IAE, x -> x.start(0, 2));
        refuseAfresh("size", Kit.ISE, x -> x.size(0));
        refuseAfresh("depends", Kit.ISE, x -> x.depends(0, 0, 0) ? 1 : 0);
        refuseAfresh("level", Kit.ISE, x -> x.level(0, 0));
        refuseAfresh("plan", Kit.ISE, x -> x.plan(0, 1, 0));
        refuseAfresh("store", Kit.ISE, x -> x.store(0, 0));
        refuseAfresh("visit", Kit.ISE, x -> x.visit(0, 1));
        refuseAfresh("code", Kit.ISE, x -> x.code(0, 0));
        refuseAfresh("start", Kit.ISE, x -> x.start(0, 1));
        refuseAfresh("tree", Kit.ISE, x -> x.tree());
    }

    @Kit.Of(where = "Terms", sentence = "A call that throws changes nothing.")
    static void refusedCallsOfATreeChangeNothing() {
        refuseUnderWay("count", Kit.IAE, x -> x.count(7));
        refuseUnderWay("node", Kit.IOOBE, x -> x.node(2, 0));
        refuseUnderWay("node", Kit.IAE, x -> x.node(0, 4));
        refuseUnderWay("value", Kit.IOOBE, x -> x.value(1, 4));
        refuseUnderWay("change", Kit.IOOBE, x -> x.change(2, 5));
        refuseUnderWay("change", Kit.IOOBE, x -> x.change(-1, 5));
        refuseAfresh("count", Kit.ISE, x -> x.count(0));
        refuseAfresh("node", Kit.ISE, x -> x.node(0, 0));
        refuseAfresh("value", Kit.ISE, x -> x.value(0, 0));
        refuseAfresh("change", Kit.ISE, x -> x.change(0, 0));
        refuseAfresh("begin", Kit.ISE, x -> x.begin());
        AttributeHouse[] without = {Kit.begun(Kit.CHAIN, "top(leaf 3)"), Kit.begun(Kit.CHAIN, "top(leaf 3)")};
        refuse("change without a literal", without[0], without[1], Kit.IAE, x -> x.change(0, 7));
        AttributeHouse[] error = {Kit.begun(Kit.rule("1/#"), "p 0"), Kit.begun(Kit.rule("1/#"), "p 0")};
        refuse("value of the error", error[0], error[1], Kit.AE, x -> x.value(0, 0));
    }

    @Kit.Of(where = "Terms", sentence = "A call that throws changes nothing.")
    static void refusedCallsOfAMachineChangeNothing() {
        refuseUnderWay("step(-1)", Kit.IAE, x -> x.step(-1));
        refuseUnderWay("step(100001)", Kit.IAE, x -> x.step(100001));
        refuseUnderWay("machine", Kit.IAE, x -> x.machine(6));
        refuseUnderWay("alone", Kit.IOOBE, x -> x.alone(3));
        refuseUnderWay("top", Kit.IOOBE, x -> x.top(1));
        refuseUnderWay("held", Kit.IOOBE, x -> x.held(2, 0));
        refuseUnderWay("held", Kit.IAE, x -> x.held(1, 1));
        refuseAfresh("step", Kit.ISE, x -> x.step(1));
        refuseAfresh("machine", Kit.ISE, x -> x.machine(0));
        refuseAfresh("alone", Kit.ISE, x -> x.alone(0));
        refuseAfresh("top", Kit.ISE, x -> x.top(0));
        refuseAfresh("held", Kit.ISE, x -> x.held(0, 0));
        AttributeHouse[] still = {Kit.with(Kit.TWICE, "p 4(q 3)"), Kit.with(Kit.TWICE, "p 4(q 3)")};
        refuse("step, not begun", still[0], still[1], Kit.ISE, x -> x.step(5));
        AttributeHouse[] error = {errorOnTheStack(), errorOnTheStack()};
        refuse("top of the error", error[0], error[1], Kit.AE, x -> x.top(0));
        AttributeHouse[] kept = {errorOnTheStack(), errorOnTheStack()};
        kept[0].step(1);
        kept[1].step(1);
        refuse("held of the error", kept[0], kept[1], Kit.AE, x -> x.held(0, 0));
    }

    private static AttributeHouse errorOnTheStack() {
        AttributeHouse x = Kit.begun(Kit.rule("1/#"), "p 0");
        x.step(3);
        return x;
    }

    @Kit.Of(where = "Terms", sentence = "Of several exceptions that one is thrown which the call names first.")
    static void theFirstOfSeveralExceptions() {
        AttributeHouse full = new AttributeHouse();
        Kit.append(full, " ".repeat(2400));
        Kit.throwing("put of a bad sign too many", Kit.IAE, () -> full.put(127));
        Kit.throwing("put of a good sign and a bad one too many", Kit.IAE, () -> full.put('a' | 127 << 24));
        Kit.CallOn[] ofGrammars = {x -> x.size(9), x -> x.depends(9, 9, 9) ? 1 : 0, x -> x.level(9, -2), x -> x.plan(-1, 0, -1),
            x -> x.store(-1, 9), x -> x.visit(9, 0), x -> x.code(-1, 9), x -> x.start(-1, 0)};
        Kit.stateless("a call of a grammar with wrong arguments", Kit.withoutAGrammar(), ofGrammars);
        Kit.CallOn[] ofTrees = {x -> x.count(9), x -> x.node(999, 9), x -> x.value(-1, 9), x -> x.change(-1, 0)};
        Kit.stateless("a call of a tree with wrong arguments", Kit.withoutATree(), ofTrees);
        Kit.CallOn[] ofMachines = {x -> x.step(-1), x -> x.machine(9), x -> x.alone(-1), x -> x.top(-1), x -> x.held(-1, -1)};
        Kit.stateless("a call of a machine with wrong arguments", Kit.withoutAMachine(), ofMachines);
        AttributeHouse x = Kit.underWay();
        Kit.throwing("node(2, 4)", Kit.IOOBE, () -> x.node(2, 4));
        Kit.throwing("node(-1, -1)", Kit.IOOBE, () -> x.node(-1, -1));
        Kit.throwing("code(19, 2)", Kit.IOOBE, () -> x.code(19, 2));
        Kit.throwing("code(-1, -1)", Kit.IOOBE, () -> x.code(-1, -1));
        Kit.throwing("held(2, 9)", Kit.IOOBE, () -> x.held(2, 9));
        // w, of store 0, is the error: what can't be asked is told first.
        AttributeHouse error = Kit.begun("symbol r;symbol s up w;p:r=s{}q:s={0.w=1/0;}", "p(q)");
        error.step(100);
        Kit.throwing("alone(0)", Kit.AE, () -> error.alone(0));
        Kit.throwing("held(1, 0)", Kit.IAE, () -> error.held(1, 0));
    }

    @Kit.Of(where = "Terms", sentence = "Texts stay when they are read.")
    static void textsStay() {
        AttributeHouse x = Kit.with("symbol a;p:a={}");
        Kit.is("signs", x.put(0), 15);
        Kit.is("read again", x.grammar(), Kit.NONE);
        Kit.is("as a tree", x.tree(), 0);
        Kit.is("signs after a fault of a tree", x.put(0), 15);
        Kit.append(x, "q:a={}");
        Kit.is("with more", x.grammar(), Kit.NONE);
        Kit.is("productions", x.size(1), 2);
        Kit.append(x, ";");
        Kit.is("a fault", x.grammar(), 21);
        Kit.is("signs after a fault", x.put(0), 22);
        Kit.readTree(x, "p");
        Kit.is("a tree, read again", x.tree(), Kit.NONE);
        Kit.is("signs of it", x.put(0), 1);
        Kit.is("circular", Kit.readGrammar(x, Kit.CIRCULAR), 2000);
        Kit.is("read again", x.grammar(), 2000);
        Kit.is("signs of it", x.put(0), Kit.CIRCULAR.length());
    }
}
