import java.lang.reflect.InvocationTargetException;
import java.lang.reflect.Method;
import java.lang.reflect.Modifier;
import java.util.ArrayList;
import java.util.Arrays;
import java.util.Comparator;
import java.util.List;
import java.util.Map;
import java.util.Random;
import java.util.TreeMap;

/** Calls with any arguments in any state, by a fixed sequence of numbers: they throw what they name, or answer. */
public final class AnyCallsTests {
    private static final int OBJECTS = 2000;
    private static final int TURNS = 512;
    private static final String[] GRAMMARS = {Kit.CHAIN, Kit.PAIR, Kit.TWICE, Kit.LISTS, Kit.ERRORS, Kit.CIRCULAR,
        Kit.CROSSED, "symbol r;symbol s up w;p:r=s{}q:s=#{0.w=1/#;}"};
    private static final String[] TREES = {"top(leaf 3)", "top(more(more(leaf -7)))", "top(pair(leaf 1,more(leaf 2)))",
        "p 4(q 3)", "root(more(one(lit 5),lit 7),one(zero))", "p(n 7,n 0)", "p(n -7,n 2)", "p(q 0)"};
    private static final int[] EDGES = {Integer.MIN_VALUE, -2, -1, 6, 7, 8, 10, 255, 2400, 100000, 100001,
        Integer.MAX_VALUE};

    private final Random random = new Random(11);
    private final List<Method> calls = new ArrayList<>();
    private final Map<String, Integer> met = new TreeMap<>();
    private int wrong;

    public static void main(String[] args) {
        AnyCallsTests tests = new AnyCallsTests();
        for (int i = 0; i < OBJECTS; i++) {
            tests.useOne();
        }
        tests.lookAtWhatWasMet();
        System.out.println(tests.met.size() + " kinds of endings, " + tests.wrong + " wrong");
        if (tests.wrong != 0) {
            System.exit(1);
        }
    }

    private AnyCallsTests() {
        for (Method m : AttributeHouse.class.getDeclaredMethods()) {
            if (Modifier.isPublic(m.getModifiers())) {
                calls.add(m);
            }
        }
        calls.sort(Comparator.comparing(Method::getName));
    }

    private void fail(String what) {
        wrong++;
        if (wrong < 20) {
            System.out.println(what);
        }
    }

    private void useOne() {
        AttributeHouse x = new AttributeHouse();
        for (int i = 0; i < TURNS; i++) {
            switch (random.nextInt(60)) {
                case 0 -> read(x, GRAMMARS[random.nextInt(GRAMMARS.length)], true);
                case 1, 2, 3 -> read(x, TREES[random.nextInt(TREES.length)], false);
                case 4 -> Kit.outcome(() -> x.begin() + x.step(100000));
                default -> call(x, calls.get(random.nextInt(calls.size())));
            }
        }
    }

    private void read(AttributeHouse x, String text, boolean asGrammar) {
        x.end(0);
        Kit.append(x, text);
        String outcome = asGrammar ? Kit.outcome(() -> x.grammar()) : Kit.outcome(() -> x.tree());
        if (asGrammar && outcome.endsWith("Exception") || !asGrammar && !outcome.matches("-?[0-9]+|" + Kit.ISE)) {
            fail("reading " + text + " met " + outcome);
        }
    }

    private void call(AttributeHouse x, Method call) {
        Object[] takes = new Object[call.getParameterCount()];
        for (int i = 0; i < takes.length; i++) {
            takes[i] = random.nextInt(4) == 0 ? EDGES[random.nextInt(EDGES.length)] : random.nextInt(6);
        }
        if (call.getName().equals("put")) {
            takes[0] = random.nextBoolean() ? random.nextInt() : random.nextInt() & 0x7f7f7f7f | 0x20202020;
        }
        try {
            call.invoke(x, takes);
            met.merge(call.getName(), 1, Integer::sum);
        } catch (InvocationTargetException e) {
            // Exactly the class that is named: one that Java throws by itself is another, or one below it.
            Class<?> thrown = e.getCause().getClass();
            met.merge(call.getName() + " " + thrown.getSimpleName(), 1, Integer::sum);
            if (!Arrays.asList(call.getExceptionTypes()).contains(thrown)) {
                fail(call.getName() + Arrays.toString(takes) + " met " + e.getCause());
            }
        } catch (IllegalAccessException e) {
            fail(call.getName() + " can't be called");
        }
    }

    private void lookAtWhatWasMet() {
        for (Method call : calls) {
            if (!met.containsKey(call.getName())) {
                fail("never answered: " + call.getName());
            }
            for (Class<?> named : call.getExceptionTypes()) {
                String ending = call.getName() + " " + named.getSimpleName();
                // A text never gets so long here.
                if (!met.containsKey(ending) && named != UnsupportedOperationException.class) {
                    fail("never met: " + ending);
                }
            }
        }
    }
}
