import java.util.ArrayList;
import java.util.Arrays;
import java.util.HashMap;
import java.util.HashSet;
import java.util.LinkedHashMap;
import java.util.List;
import java.util.Map;
import java.util.Random;
import java.util.Set;
import java.util.TreeMap;
import java.util.TreeSet;
import java.util.regex.Matcher;
import java.util.regex.Pattern;

/** A plain second reading of the document, with sets and recursion, and the class compared with it. */
public final class ReferenceTests {
    private static final Long ERROR = null;
    private static int wrong = 0;
    private static long checks = 0;
    private static String about = "";
    private static final Map<String, Integer> seen = new TreeMap<>();

    private static void is(String what, long got, long want) {
        checks++;
        if (got != want) {
            wrong++;
            if (wrong < 20) {
                System.out.println(what + " answered " + got + ", due is " + want + "\n  of " + about);
            }
        }
    }

    private static void saw(String what) {
        seen.merge(what, 1, Integer::sum);
    }

    // Tokens and what they make

    private static final class Fault extends RuntimeException {
        private static final long serialVersionUID = 1;
        final int place;

        Fault(int place) {
            this.place = place;
        }
    }

    private record Token(String text, int place) { }

    private record Slot(int occurrence, int attribute) { }

    private record Attribute(int symbol, int number) { }

    private record Visit(int symbol, int number) { }

    private record Symbol(String name, List<String> attributes, Set<Integer> down) { }

    /** An expression: its code's last kind, a number or slot, and its parts. */
    private record Expression(int kind, int number, Slot slot, List<Expression> parts) {
        void collect(Set<Slot> into) {
            if (slot != null) {
                into.add(slot);
            }
            for (Expression part : parts) {
                part.collect(into);
            }
        }
    }

    private static final class Production {
        String name;
        boolean literal;
        final List<Integer> symbols = new ArrayList<>();
        final Map<Slot, Expression> rules = new HashMap<>();
        final Map<Slot, Set<Slot>> direct = new HashMap<>();
        /** For each visit of the head, from 1 on; a Slot is evaluated, an Integer visited. */
        final List<List<Object>> plans = new ArrayList<>();

        int head() {
            return symbols.get(0);
        }
    }

    private static final class Tokens {
        static final Set<String> WORDS = Set.of("symbol", "down", "up", "if", "then", "else");
        static final Pattern TOKEN = Pattern.compile("[a-z]+|[0-9]+|[:=;,.{}()#+\\-*/<]|[^ \\n]");
        final List<Token> all = new ArrayList<>();
        int at;

        Tokens(String text) {
            Matcher m = TOKEN.matcher(text);
            while (m.find()) {
                all.add(new Token(m.group(), m.start()));
            }
            all.add(new Token("", text.length()));
        }

        String next() {
            return all.get(at).text;
        }

        boolean sees(String s) {
            return next().equals(s);
        }

        Fault fault() {
            return new Fault(all.get(at).place);
        }

        String take() {
            return all.get(at++).text;
        }

        void expect(String s) {
            need(sees(s));
            at++;
        }

        void need(boolean fine) {
            if (!fine) {
                throw fault();
            }
        }

        boolean isName() {
            return next().matches("[a-z]{1,8}") && !WORDS.contains(next());
        }

        boolean isNumber() {
            return next().matches("[0-9]{1,6}");
        }
    }

    // The grammar of a text

    private static final class Model {
        final List<Symbol> symbols = new ArrayList<>();
        final List<Production> productions = new ArrayList<>();
        private final Tokens t;

        Model(String text) {
            t = new Tokens(text);
            do {
                t.need(symbols.size() < 12);
                symbol();
            } while (t.sees("symbol"));
            do {
                t.need(productions.size() < 30);
                production();
            } while (!t.sees(""));
        }

        private int symbolNamed(String name) {
            for (int s = 0; s < symbols.size(); s++) {
                if (symbols.get(s).name.equals(name)) {
                    return s;
                }
            }
            return -1;
        }

        Production productionNamed(String name) {
            for (Production p : productions) {
                if (p.name.equals(name)) {
                    return p;
                }
            }
            return null;
        }

        private void symbol() {
            t.expect("symbol");
            t.need(t.isName() && symbolNamed(t.next()) < 0);
            Symbol s = new Symbol(t.take(), new ArrayList<>(), new TreeSet<>());
            if (t.sees("down")) {
                t.need(!symbols.isEmpty());
                attributes(s, true);
            }
            if (t.sees("up")) {
                attributes(s, false);
            }
            t.expect(";");
            symbols.add(s);
        }

        private void attributes(Symbol s, boolean down) {
            do {
                t.take();
                t.need(t.isName() && s.attributes.size() < 8 && !s.attributes.contains(t.next()));
                if (down) {
                    s.down.add(s.attributes.size());
                }
                s.attributes.add(t.take());
            } while (t.sees(","));
        }

        private int symbolHere() {
            t.need(t.isName() && symbolNamed(t.next()) >= 0);
            return symbolNamed(t.take());
        }

        private void production() {
            t.need(t.isName() && productionNamed(t.next()) == null);
            Production p = new Production();
            p.name = t.take();
            t.expect(":");
            p.symbols.add(symbolHere());
            t.expect("=");
            if (t.sees("#")) {
                t.take();
                p.literal = true;
            }
            while (!t.sees("{")) {
                t.need(p.symbols.size() < 4);
                p.symbols.add(symbolHere());
            }
            t.take();
            while (!t.sees("}")) {
                Slot x = slot(p, true);
                t.need(!p.rules.containsKey(x));
                t.take();
                t.expect("=");
                Expression e = expression(p, 0);
                p.rules.put(x, e);
                Set<Slot> names = new HashSet<>();
                e.collect(names);
                p.direct.put(x, names);
                t.expect(";");
            }
            t.need(p.rules.size() == definable(p).size());
            t.take();
            productions.add(p);
        }

        boolean isDown(Production p, Slot x) {
            return symbols.get(p.symbols.get(x.occurrence)).down.contains(x.attribute);
        }

        /** Those that a rule defines, by occurrences, then by attributes. */
        List<Slot> definable(Production p) {
            List<Slot> all = new ArrayList<>();
            for (Slot x : slots(p)) {
                if (isDown(p, x) == (x.occurrence > 0)) {
                    all.add(x);
                }
            }
            return all;
        }

        List<Slot> slots(Production p) {
            List<Slot> all = new ArrayList<>();
            for (int o = 0; o < p.symbols.size(); o++) {
                for (int a = 0; a < symbols.get(p.symbols.get(o)).attributes.size(); a++) {
                    all.add(new Slot(o, a));
                }
            }
            return all;
        }

        /** Stays at the attribute, since it may be at fault for another reason. */
        private Slot slot(Production p, boolean defines) {
            t.need(t.isNumber() && Integer.parseInt(t.next()) < p.symbols.size());
            int o = Integer.parseInt(t.take());
            t.expect(".");
            t.need(t.isName());
            int a = symbols.get(p.symbols.get(o)).attributes.indexOf(t.next());
            t.need(a >= 0);
            Slot x = new Slot(o, a);
            t.need(definable(p).contains(x) == defines);
            return x;
        }

        private Expression make(int kind, Expression... parts) {
            return new Expression(kind, 0, null, List.of(parts));
        }

        private Expression expression(Production p, int nested) {
            if (t.sees("if")) {
                t.need(nested < 10);
                t.take();
                Expression e = expression(p, nested + 1);
                t.expect("then");
                Expression f = expression(p, nested + 1);
                t.expect("else");
                return make(13, e, f, expression(p, nested + 1));
            }
            Expression left = sum(p, nested);
            if (t.sees("<") || t.sees("=")) {
                int kind = t.take().equals("<") ? 11 : 12;
                left = make(kind, left, sum(p, nested));
            }
            return left;
        }

        private Expression sum(Production p, int nested) {
            Expression left = product(p, nested);
            while (t.sees("+") || t.sees("-")) {
                int kind = t.take().equals("+") ? 7 : 8;
                left = make(kind, left, product(p, nested));
            }
            return left;
        }

        private Expression product(Production p, int nested) {
            Expression left = factor(p, nested);
            while (t.sees("*") || t.sees("/")) {
                int kind = t.take().equals("*") ? 9 : 10;
                left = make(kind, left, factor(p, nested));
            }
            return left;
        }

        private Expression factor(Production p, int nested) {
            if (t.sees("-") || t.sees("(")) {
                t.need(nested < 10);
                if (t.take().equals("-")) {
                    return make(6, factor(p, nested + 1));
                }
                Expression e = expression(p, nested + 1);
                t.expect(")");
                return e;
            }
            if (t.sees("#")) {
                t.need(p.literal);
                t.take();
                return make(1);
            }
            t.need(t.isNumber());
            if (t.all.get(t.at + 1).text.equals(".")) {
                Slot x = slot(p, false);
                t.take();
                return new Expression(2, 0, x, List.of());
            }
            return new Expression(0, Integer.parseInt(t.take()), null, List.of());
        }
    }

    // Order, plans, stores

    private static final class Ordered {
        final Model m;
        final List<Map<Integer, Set<Integer>>> ids = new ArrayList<>();
        final List<Map<Slot, Set<Slot>>> idp = new ArrayList<>();
        final List<Map<Integer, Integer>> levels = new ArrayList<>();
        final Map<Visit, Set<Attribute>> defines = new HashMap<>();
        final Map<Attribute, Integer> stores = new LinkedHashMap<>();
        int answer = -1;

        Ordered(Model m) {
            this.m = m;
            induce();
            for (int p = 0; p < m.productions.size() && answer < 0; p++) {
                if (isCircular(idp.get(p))) {
                    answer = 2000 + p;
                }
            }
            if (answer >= 0) {
                return;
            }
            for (int s = 0; s < m.symbols.size(); s++) {
                levels.add(levelsOf(s));
            }
            for (int p = 0; p < m.productions.size() && answer < 0; p++) {
                if (isCrossed(m.productions.get(p))) {
                    answer = 3000 + p;
                }
            }
            if (answer < 0) {
                for (Production p : m.productions) {
                    plan(p);
                }
                findDefined();
                findStores();
            }
        }

        private static <T> boolean add(Map<T, Set<T>> relation, T x, T y) {
            return relation.computeIfAbsent(x, k -> new HashSet<>()).add(y);
        }

        private static <T> boolean has(Map<T, Set<T>> relation, T x, T y) {
            return relation.getOrDefault(x, Set.of()).contains(y);
        }

        private static <T> void close(Map<T, Set<T>> relation) {
            boolean grew = true;
            while (grew) {
                grew = false;
                for (T x : new ArrayList<>(relation.keySet())) {
                    for (T y : new ArrayList<>(relation.get(x))) {
                        grew |= relation.get(x).addAll(new ArrayList<>(relation.getOrDefault(y, Set.of())));
                    }
                }
            }
        }

        private static <T> boolean isCircular(Map<T, Set<T>> relation) {
            return relation.keySet().stream().anyMatch(x -> has(relation, x, x));
        }

        private static Map<Slot, Set<Slot>> copyOfDirect(Production p) {
            Map<Slot, Set<Slot>> copy = new HashMap<>();
            p.direct.forEach((x, ys) -> copy.put(x, new HashSet<>(ys)));
            return copy;
        }

        private void induce() {
            m.symbols.forEach(s -> ids.add(new HashMap<>()));
            m.productions.forEach(p -> idp.add(copyOfDirect(p)));
            boolean grew = true;
            while (grew) {
                grew = false;
                for (int i = 0; i < m.productions.size(); i++) {
                    Production p = m.productions.get(i);
                    for (Slot x : m.slots(p)) {
                        for (int b : ids.get(p.symbols.get(x.occurrence)).getOrDefault(x.attribute, Set.of())) {
                            add(idp.get(i), x, new Slot(x.occurrence, b));
                        }
                    }
                    close(idp.get(i));
                    for (Slot x : m.slots(p)) {
                        for (Slot y : idp.get(i).getOrDefault(x, Set.of())) {
                            if (x.occurrence == y.occurrence) {
                                grew |= add(ids.get(p.symbols.get(x.occurrence)), x.attribute, y.attribute);
                            }
                        }
                    }
                }
            }
        }

        private Map<Integer, Integer> levelsOf(int s) {
            Map<Integer, Integer> got = new HashMap<>();
            int n = m.symbols.get(s).attributes.size();
            for (int k = 1; got.size() < n; k++) {
                Set<Integer> in = new HashSet<>();
                for (int a = 0; a < n; a++) {
                    if (!got.containsKey(a) && m.symbols.get(s).down.contains(a) == (k % 2 == 0)) {
                        in.add(a);
                    }
                }
                boolean shrank = true;
                while (shrank) {
                    shrank = in.removeIf(a -> {
                        for (int b = 0; b < n; b++) {
                            if (has(ids.get(s), b, a) && !got.containsKey(b) && !in.contains(b)) {
                                return true;
                            }
                        }
                        return false;
                    });
                }
                for (int a : in) {
                    got.put(a, k);
                }
            }
            return got;
        }

        int level(Production p, Slot x) {
            return levels.get(p.symbols.get(x.occurrence)).get(x.attribute);
        }

        int visits(int s) {
            int highest = levels.get(s).values().stream().max(Integer::compare).orElse(1);
            return (highest + 1) / 2;
        }

        int visitOf(int s, int a) {
            return visits(s) - (levels.get(s).get(a) - 1) / 2;
        }

        private boolean isCrossed(Production p) {
            Map<Slot, Set<Slot>> relation = copyOfDirect(p);
            for (Slot x : m.slots(p)) {
                for (Slot y : m.slots(p)) {
                    if (x.occurrence == y.occurrence && level(p, y) == level(p, x) + 1) {
                        add(relation, x, y);
                    }
                }
            }
            close(relation);
            return isCircular(relation);
        }

        private List<Slot> ofVisit(Production p, int o, int visit, boolean down) {
            List<Slot> found = new ArrayList<>();
            for (Slot x : m.slots(p)) {
                if (x.occurrence == o && m.isDown(p, x) == down && visitOf(p.symbols.get(o), x.attribute) == visit) {
                    found.add(x);
                }
            }
            return found;
        }

        private void plan(Production p) {
            Set<Slot> there = new HashSet<>();
            Set<Slot> evaluated = new HashSet<>();
            int[] visited = new int[4];
            p.plans.add(List.of());
            for (int visit = 1; visit <= visits(p.head()); visit++) {
                List<Object> done = new ArrayList<>();
                there.addAll(ofVisit(p, 0, visit, true));
                int before;
                do {
                    before = done.size();
                    for (Slot x : m.definable(p)) {
                        if (!evaluated.contains(x) && there.containsAll(p.direct.get(x))) {
                            evaluated.add(x);
                            there.add(x);
                            done.add(x);
                        }
                    }
                    for (int o = 1; o < p.symbols.size(); o++) {
                        int next = visited[o] + 1;
                        if (next <= visits(p.symbols.get(o)) && there.containsAll(ofVisit(p, o, next, true))) {
                            visited[o]++;
                            there.addAll(ofVisit(p, o, next, false));
                            done.add(o);
                        }
                    }
                } while (done.size() > before);
                p.plans.add(done);
            }
            for (int o = 1; o < p.symbols.size(); o++) {
                is("all visits are made", visited[o], visits(p.symbols.get(o)));
            }
            is("all rules are evaluated", evaluated.size(), p.rules.size());
        }

        /** Which visit of its occurrence entry i of a plan is. */
        private int made(Production p, int visit, int i) {
            int sum = 0;
            for (int v = 1; v <= visit; v++) {
                List<Object> entries = p.plans.get(v);
                for (int k = 0; k < (v == visit ? i + 1 : entries.size()); k++) {
                    if (entries.get(k).equals(p.plans.get(visit).get(i))) {
                        sum++;
                    }
                }
            }
            return sum;
        }

        private Set<Attribute> definedBy(Production p, int visit, int i) {
            Object entry = p.plans.get(visit).get(i);
            if (entry instanceof Slot x) {
                return Set.of(new Attribute(p.symbols.get(x.occurrence), x.attribute));
            }
            Visit v = new Visit(p.symbols.get((Integer) entry), made(p, visit, i));
            return defines.getOrDefault(v, Set.of());
        }

        private void findDefined() {
            boolean grew = true;
            while (grew) {
                grew = false;
                for (Production p : m.productions) {
                    for (int visit = 1; visit < p.plans.size(); visit++) {
                        Set<Attribute> all = defines.computeIfAbsent(new Visit(p.head(), visit), k -> new HashSet<>());
                        for (int i = 0; i < p.plans.get(visit).size(); i++) {
                            grew |= all.addAll(new ArrayList<>(definedBy(p, visit, i)));
                        }
                    }
                }
            }
        }

        private void findStores() {
            for (int s = 0; s < m.symbols.size(); s++) {
                for (int a = 0; a < m.symbols.get(s).attributes.size(); a++) {
                    Attribute x = new Attribute(s, a);
                    stores.put(x, s == 0 || !isKeptShort(x) ? 2 : isAlone(x) ? 0 : 1);
                }
            }
        }

        private int planOfRule(Production p, Slot x) {
            for (int v = 1; v < p.plans.size(); v++) {
                if (p.plans.get(v).contains(x)) {
                    return v;
                }
            }
            throw new IllegalStateException();
        }

        private int planOfVisit(Production p, int o, int which) {
            for (int v = 1; v < p.plans.size(); v++) {
                for (int i = 0; i < p.plans.get(v).size(); i++) {
                    if (p.plans.get(v).get(i).equals(o) && made(p, v, i) == which) {
                        return v;
                    }
                }
            }
            throw new IllegalStateException();
        }

        private int indexOfVisit(Production p, int o, int which) {
            int v = planOfVisit(p, o, which);
            for (int i = 0; i < p.plans.get(v).size(); i++) {
                if (p.plans.get(v).get(i).equals(o) && made(p, v, i) == which) {
                    return i;
                }
            }
            throw new IllegalStateException();
        }

        private List<Slot> rulesNaming(Production p, Slot y) {
            List<Slot> found = new ArrayList<>();
            p.direct.forEach((x, ys) -> {
                if (ys.contains(y)) {
                    found.add(x);
                }
            });
            return found;
        }

        private boolean isKeptShort(Attribute x) {
            int v = visitOf(x.symbol, x.number);
            boolean down = m.symbols.get(x.symbol).down.contains(x.number);
            for (Production p : m.productions) {
                if (p.head() == x.symbol) {
                    Slot own = new Slot(0, x.number);
                    if (down) {
                        for (Slot rule : rulesNaming(p, own)) {
                            if (planOfRule(p, rule) != v) {
                                return false;
                            }
                        }
                    } else if (planOfRule(p, own) != v) {
                        return false;
                    }
                }
                for (int o = 1; o < p.symbols.size(); o++) {
                    if (p.symbols.get(o) != x.symbol) {
                        continue;
                    }
                    Slot its = new Slot(o, x.number);
                    for (Slot rule : down ? List.of(its) : rulesNaming(p, its)) {
                        if (planOfRule(p, rule) != planOfVisit(p, o, v)) {
                            return false;
                        }
                    }
                }
            }
            return true;
        }

        private boolean anyDefines(Attribute x, Production p, int visit, int from, int to) {
            for (int i = from; i < to; i++) {
                if (definedBy(p, visit, i).contains(x)) {
                    return true;
                }
            }
            return false;
        }

        private int lastNaming(Production p, Slot y, int visit) {
            int last = -1;
            for (Slot rule : rulesNaming(p, y)) {
                last = Math.max(last, p.plans.get(visit).indexOf(rule));
            }
            return last;
        }

        private boolean isAlone(Attribute x) {
            int v = visitOf(x.symbol, x.number);
            boolean down = m.symbols.get(x.symbol).down.contains(x.number);
            for (Production p : m.productions) {
                Slot own = new Slot(0, x.number);
                if (p.head() == x.symbol && down && anyDefines(x, p, v, 0, lastNaming(p, own, v))) {
                    return false;
                }
                if (p.head() == x.symbol && !down
                        && anyDefines(x, p, v, p.plans.get(v).indexOf(own) + 1, p.plans.get(v).size())) {
                    return false;
                }
                for (int o = 1; o < p.symbols.size(); o++) {
                    if (p.symbols.get(o) != x.symbol) {
                        continue;
                    }
                    Slot its = new Slot(o, x.number);
                    int w = planOfVisit(p, o, v);
                    int at = indexOfVisit(p, o, v);
                    if (down ? anyDefines(x, p, w, p.plans.get(w).indexOf(its) + 1, at)
                            : anyDefines(x, p, w, at + 1, lastNaming(p, its, w))) {
                        return false;
                    }
                }
            }
            return true;
        }

        int storeOf(Production p, Slot x) {
            return stores.get(new Attribute(p.symbols.get(x.occurrence), x.attribute));
        }

        /** Those of store 1 of occurrences 1, 2, 3. */
        List<Slot> frame(Production p) {
            List<Slot> found = new ArrayList<>();
            for (Slot x : m.slots(p)) {
                if (x.occurrence > 0 && storeOf(p, x) == 1) {
                    found.add(x);
                }
            }
            return found;
        }
    }

    // The program

    private static final class Code {
        final Ordered g;
        final List<int[]> all = new ArrayList<>();
        final Map<List<Integer>, Integer> starts = new HashMap<>();

        Code(Ordered g) {
            this.g = g;
            for (int i = 0; i < g.m.productions.size(); i++) {
                Production p = g.m.productions.get(i);
                for (int v = 1; v < p.plans.size(); v++) {
                    starts.put(List.of(i, v), all.size());
                    for (Object entry : p.plans.get(v)) {
                        if (entry instanceof Slot x) {
                            expression(p, p.rules.get(x));
                            access(p, x, new int[] {16, 18, 15, 17});
                        } else {
                            add(19, (Integer) entry);
                        }
                    }
                    add(20, 0);
                }
            }
        }

        private int[] add(int kind, int number) {
            int[] made = {kind, number};
            all.add(made);
            return made;
        }

        /** Kinds: of store 0; of store 1, the head's; of store 2; of store 1, another's. */
        private void access(Production p, Slot x, int[] kinds) {
            int store = g.storeOf(p, x);
            if (store == 2) {
                add(kinds[2], 10 * x.occurrence + x.attribute);
            } else if (store == 0) {
                Attribute a = new Attribute(p.symbols.get(x.occurrence), x.attribute);
                List<Attribute> variables = new ArrayList<>(g.stores.keySet());
                variables.removeIf(y -> g.stores.get(y) != 0);
                add(kinds[0], variables.indexOf(a));
            } else if (x.occurrence == 0) {
                int ahead = 0;
                for (int a = 0; a < x.attribute; a++) {
                    ahead += g.storeOf(p, new Slot(0, a)) == 1 ? 1 : 0;
                }
                add(kinds[1], ahead);
            } else {
                add(kinds[3], g.frame(p).indexOf(x));
            }
        }

        private void expression(Production p, Expression e) {
            if (e.kind == 13) {
                expression(p, e.parts.get(0));
                int[] test = add(13, 0);
                expression(p, e.parts.get(1));
                int[] jump = add(14, 0);
                test[1] = all.size();
                expression(p, e.parts.get(2));
                jump[1] = all.size();
            } else if (e.kind == 2) {
                access(p, e.slot, new int[] {3, 5, 2, 4});
            } else {
                for (Expression part : e.parts) {
                    expression(p, part);
                }
                add(e.kind, e.number);
            }
        }
    }

    // Trees

    private static final class Node {
        int number;
        Production production;
        Node parent;
        int place;
        int literal;
        final List<Node> children = new ArrayList<>();
        int visited;
        final Map<Integer, Long> kept = new HashMap<>();

        Node at(int occurrence) {
            return occurrence == 0 ? this : children.get(occurrence - 1);
        }
    }

    private static final class TreeModel {
        final Ordered g;
        final List<Node> nodes = new ArrayList<>();
        private final Tokens t;
        private Map<List<Integer>, Long> values = new HashMap<>();

        TreeModel(Ordered g, String text) {
            this.g = g;
            t = new Tokens(text);
            node(0, null, 0);
            t.need(t.sees(""));
        }

        private Node node(int symbol, Node parent, int place) {
            t.need(t.isName() && nodes.size() < 250);
            Node n = new Node();
            n.production = g.m.productionNamed(t.next());
            t.need(n.production != null && n.production.head() == symbol);
            t.take();
            n.number = nodes.size();
            n.parent = parent;
            n.place = place;
            nodes.add(n);
            if (n.production.literal) {
                int sign = 1;
                if (t.sees("-")) {
                    t.take();
                    sign = -1;
                }
                t.need(t.isNumber());
                n.literal = sign * Integer.parseInt(t.take());
            }
            for (int o = 1; o < n.production.symbols.size(); o++) {
                t.expect(o == 1 ? "(" : ",");
                n.children.add(node(n.production.symbols.get(o), n, o));
            }
            if (n.production.symbols.size() > 1) {
                t.expect(")");
            }
            return n;
        }

        int symbol(Node n) {
            return n.production.head();
        }

        int attributes(Node n) {
            return g.m.symbols.get(symbol(n)).attributes.size();
        }

        void forget() {
            values = new HashMap<>();
        }

        Long value(Node n, int a) {
            List<Integer> key = List.of(n.number, a);
            if (!values.containsKey(key)) {
                boolean down = g.m.symbols.get(symbol(n)).down.contains(a);
                Node where = down ? n.parent : n;
                Slot x = new Slot(down ? n.place : 0, a);
                values.put(key, work(where, where.production.rules.get(x)));
            }
            return values.get(key);
        }

        private Long work(Node n, Expression e) {
            switch (e.kind) {
                case 0:
                    return (long) e.number;
                case 1:
                    return (long) n.literal;
                case 2:
                    return value(n.at(e.slot.occurrence), e.slot.attribute);
                case 13:
                    Long test = work(n, e.parts.get(0));
                    return test == ERROR ? ERROR : work(n, e.parts.get(test == 0 ? 2 : 1));
                case 6:
                    return operate(8, 0L, work(n, e.parts.get(0)));
                default:
                    return operate(e.kind, work(n, e.parts.get(0)), work(n, e.parts.get(1)));
            }
        }
    }

    private static Long operate(int kind, Long left, Long right) {
        if (left == ERROR || right == ERROR) {
            return ERROR;
        }
        int a = left.intValue();
        int b = right.intValue();
        switch (kind) {
            case 7:
                return (long) (a + b);
            case 8:
                return (long) (a - b);
            case 9:
                return (long) (a * b);
            case 10:
                return b == 0 ? ERROR : Long.valueOf(a / b);
            case 11:
                return a < b ? 1L : 0L;
            default:
                return a == b ? 1L : 0L;
        }
    }

    // The machine, with a frame for each visit

    private record Activity(Node node, int back, Long[] frame) { }

    private static final class MachineModel {
        final TreeModel t;
        final Code code;
        final List<Long> stack = new ArrayList<>();
        final List<Activity> underWay = new ArrayList<>();
        final Long[] variables = new Long[96];
        int place;
        int done;
        boolean literalsChanged;

        MachineModel(TreeModel t, Code code) {
            this.t = t;
            this.code = code;
            Arrays.fill(variables, 0L);
            for (Node n : t.nodes) {
                n.visited = 0;
                n.kept.clear();
            }
            enter(t.nodes.get(0), -1);
        }

        private void enter(Node n, int back) {
            n.visited++;
            // What an earlier visit left in a frame is not there: a get of it would come out wrong.
            Long[] frame = new Long[code.g.frame(n.production).size()];
            Arrays.fill(frame, 123456789L);
            underWay.add(new Activity(n, back, frame));
            place = code.starts.get(List.of(code.g.m.productions.indexOf(n.production), n.visited));
        }

        boolean isOver() {
            return underWay.isEmpty();
        }

        Activity last() {
            return underWay.get(underWay.size() - 1);
        }

        private Long pop() {
            return stack.remove(stack.size() - 1);
        }

        /** The place in the frame above of the head's attribute of store 1 with so many ahead. */
        private int above(Node n, int ahead) {
            List<Slot> frame = code.g.frame(n.parent.production);
            for (int i = 0; i < frame.size(); i++) {
                if (frame.get(i).occurrence == n.place) {
                    return i + ahead;
                }
            }
            throw new IllegalStateException();
        }

        void step() {
            int kind = code.all.get(place)[0];
            int number = code.all.get(place)[1];
            Node n = last().node;
            Long[] frame = last().frame;
            Long[] frameAbove = underWay.size() < 2 ? null : underWay.get(underWay.size() - 2).frame;
            place++;
            done++;
            switch (kind) {
                case 0 -> stack.add((long) number);
                case 1 -> stack.add((long) n.literal);
                case 2 -> stack.add(n.at(number / 10).kept.getOrDefault(number % 10, 0L));
                case 3 -> stack.add(variables[number]);
                case 4 -> stack.add(frame[number]);
                case 5 -> stack.add(frameAbove[above(n, number)]);
                case 6 -> stack.add(operate(8, 0L, pop()));
                case 13 -> test(number);
                case 14 -> place = number;
                case 15 -> n.at(number / 10).kept.put(number % 10, checked(n, number / 10, number % 10, pop()));
                case 16 -> variables[number] = pop();
                case 17 -> frame[number] = pop();
                case 18 -> frameAbove[above(n, number)] = pop();
                case 19 -> enter(n.at(number), place);
                case 20 -> back();
                default -> {
                    Long right = pop();
                    stack.add(operate(kind, pop(), right));
                }
            }
        }

        /** What the stores give is what the rules say. */
        private Long checked(Node n, int o, int a, Long value) {
            if (!literalsChanged) {
                Long due = t.value(n.at(o), a);
                is("what is kept is the value", value == ERROR ? Long.MIN_VALUE : value,
                        due == ERROR ? Long.MIN_VALUE : due);
            }
            return value;
        }

        private void test(int number) {
            Long value = pop();
            if (value == ERROR) {
                stack.add(ERROR);
                place = code.all.get(number - 1)[1];
            } else if (value == 0) {
                place = number;
            }
        }

        private void back() {
            Activity left = underWay.remove(underWay.size() - 1);
            place = left.back;
            if (underWay.isEmpty() && left.node.visited < code.g.visits(left.node.production.head())) {
                enter(left.node, -1);
            }
        }
    }

    // Grammars, trees and faults by a fixed sequence of numbers

    private static final class Maker {
        final Random random;
        /** Down and up come by turns then, and most rules name the one ahead: so symbols have many visits. */
        private boolean chained;

        Maker(long seed) {
            // Seeds that are near one another begin alike: spread, they don't.
            random = new Random(seed * 0x9E3779B97F4A7C15L);
        }

        int below(int n) {
            return random.nextInt(n);
        }

        <T> T one(List<T> all) {
            return all.get(below(all.size()));
        }

        /** A grammar in which most rules follow an order of each symbol's attributes, so that many are ordered. */
        String grammar() {
            chained = below(4) == 0;
            int n = below(20) == 0 ? 1 : 2 + below(below(6) == 0 ? 11 : 3);
            int most = chained || below(6) == 0 ? 8 : 2 + below(5);
            StringBuilder text = new StringBuilder();
            int[] downs = new int[n];
            List<List<Integer>> orders = new ArrayList<>();
            for (int s = 0; s < n; s++) {
                int count = chained ? most - below(4) : below(most + 1);
                downs[s] = s == 0 ? 0 : chained ? (count + below(2)) / 2 : below(count + 1);
                List<Integer> order = new ArrayList<>();
                text.append("symbol ").append((char) ('a' + s));
                for (int a = 0; a < count; a++) {
                    text.append(a == 0 ? (downs[s] > 0 ? " down " : " up ") : a == downs[s] ? " up " : ",");
                    text.append((char) ('p' + a));
                    order.add(below(order.size() + 1), a);
                }
                text.append(below(3) == 0 ? ";\n" : ";");
                orders.add(chained ? byTurns(order, downs[s]) : order);
            }
            int number = 0;
            for (int s = 0; s < n; s++) {
                int count = (s == 0 ? 1 : 0) + below(4);
                for (int i = 0; i < count && number < 30; i++) {
                    int right = i == 0 && below(3) > 0 ? 0 : below(4);
                    production(text, number++, s, right, n, downs, orders);
                }
            }
            return text.toString();
        }

        /** The same attributes, down and up by turns as long as there are both. */
        private List<Integer> byTurns(List<Integer> order, int downs) {
            List<Integer> left = new ArrayList<>(order);
            List<Integer> turned = new ArrayList<>();
            boolean down = below(2) == 0;
            while (!left.isEmpty()) {
                int at = 0;
                while (at < left.size() - 1 && left.get(at) < downs != down) {
                    at++;
                }
                turned.add(left.remove(at));
                down = !down;
            }
            return turned;
        }

        private void production(StringBuilder text, int number, int head, int right, int n, int[] downs,
                List<List<Integer>> orders) {
            boolean literal = below(2) == 0;
            text.append("x").append((char) ('a' + number / 26)).append((char) ('a' + number % 26)).append(':');
            text.append((char) ('a' + head)).append(literal ? "=#" : "=");
            List<Integer> symbols = new ArrayList<>(List.of(head));
            for (int o = 1; o <= right; o++) {
                int s = below(4) == 0 ? head : below(n);
                symbols.add(s);
                text.append(o == 1 ? "" : " ").append((char) ('a' + s));
            }
            text.append('{');
            List<Slot> merged = merge(symbols, orders);
            List<String> rules = new ArrayList<>();
            int order = below(8);
            for (int i = 0; i < merged.size(); i++) {
                Slot x = merged.get(i);
                if (defines(symbols, downs, x)) {
                    List<Slot> usable = usable(merged, i, order);
                    usable.removeIf(y -> defines(symbols, downs, y));
                    String link = link(x, usable);
                    rules.add(below(rules.size() + 1), spell(x) + "=" + link + (link.isEmpty()
                            ? expression(usable, literal, 0) : factor(usable, literal, 0)) + ";");
                }
            }
            rules.forEach(text::append);
            text.append(below(2) == 0 ? "}\n" : "}");
        }

        /**
         * What the rule of an attribute may name: with 0 all, so that many are circular; with 1 of one occurrence
         * behind = all that others have there, so that some are crossed; else what is ahead of it.
         */
        private List<Slot> usable(List<Slot> merged, int i, int order) {
            Slot x = merged.get(i);
            List<Slot> found = new ArrayList<>(order == 0 || order == 1 && x.occurrence > 0 ? merged : merged.subList(0, i));
            if (order == 1 && x.occurrence > 0) {
                found.removeIf(y -> y.occurrence == 0 || y.occurrence == x.occurrence);
            }
            return found;
        }

        /** Names the last one ahead of the same occurrence, where rules are chained. */
        private String link(Slot x, List<Slot> usable) {
            String last = "";
            for (Slot y : usable) {
                if (chained && y.occurrence == x.occurrence) {
                    last = spell(y);
                }
            }
            return last.isEmpty() || below(8) == 0 ? "" : last + one(List.of("+", "-", "*"));
        }

        private boolean defines(List<Integer> symbols, int[] downs, Slot x) {
            boolean down = x.attribute < downs[symbols.get(x.occurrence)];
            return down == x.occurrence > 0;
        }

        private List<Slot> merge(List<Integer> symbols, List<List<Integer>> orders) {
            int[] taken = new int[4];
            List<Slot> merged = new ArrayList<>();
            boolean more = true;
            while (more) {
                List<Integer> left = new ArrayList<>();
                for (int o = 0; o < symbols.size(); o++) {
                    if (taken[o] < orders.get(symbols.get(o)).size()) {
                        left.add(o);
                    }
                }
                more = !left.isEmpty();
                if (more) {
                    int o = one(left);
                    merged.add(new Slot(o, orders.get(symbols.get(o)).get(taken[o]++)));
                }
            }
            return merged;
        }

        private String spell(Slot x) {
            return x.occurrence + "." + (char) ('p' + x.attribute);
        }

        private String expression(List<Slot> usable, boolean literal, int depth) {
            int kind = depth > 2 ? below(4) : below(18);
            switch (kind) {
                case 0:
                    return "" + below(below(3) == 0 ? 1000000 : 4);
                case 1:
                    return literal ? "#" : "1";
                case 4:
                    return "-" + factor(usable, literal, depth + 1);
                case 5:
                    return "if " + expression(usable, literal, depth + 1) + " then "
                            + expression(usable, literal, depth + 1) + " else " + expression(usable, literal, depth + 1);
                case 6:
                case 7:
                    return factor(usable, literal, depth + 1) + one(List.of("<", "=", "+", "-", "*", "/"))
                            + factor(usable, literal, depth + 1);
                case 8:
                    return factor(usable, literal, depth + 1) + one(List.of("+", "-")) + factor(usable, literal, depth + 1)
                            + one(List.of("*", "/", "-", "<")) + factor(usable, literal, depth + 1);
                default:
                    return usable.isEmpty() ? "3" : spell(one(usable));
            }
        }

        private String factor(List<Slot> usable, boolean literal, int depth) {
            String e = expression(usable, literal, depth);
            return e.matches("[0-9]+|[0-9]\\.[a-z]|#") ? e : "(" + e + ")";
        }

        /** A tree of a symbol, or null if there is none that is low enough. */
        String tree(Ordered g, int symbol, int depth) {
            List<Production> fit = new ArrayList<>();
            for (Production p : g.m.productions) {
                if (p.head() == symbol && (depth > 0 || p.symbols.size() == 1)) {
                    fit.add(p);
                }
            }
            for (int tries = 0; tries < 3 && !fit.isEmpty(); tries++) {
                Production p = one(fit);
                StringBuilder text = new StringBuilder(p.name);
                if (p.literal) {
                    text.append(below(4) == 0 ? "-" : " ").append(below(below(4) == 0 ? 1000000 : 4));
                }
                boolean fine = true;
                for (int o = 1; o < p.symbols.size() && fine; o++) {
                    String part = tree(g, p.symbols.get(o), depth - 1);
                    fine = part != null;
                    text.append(o == 1 ? "(" : ",").append(part);
                }
                if (fine) {
                    return text + (p.symbols.size() > 1 ? ")" : "");
                }
            }
            return null;
        }

        String spoil(String text) {
            StringBuilder s = new StringBuilder(text);
            int times = 1 + below(2);
            for (int i = 0; i < times; i++) {
                int at = below(s.length() + 1);
                switch (below(5)) {
                    case 0:
                        s.insert(at, one(List.of(":", "=", ";", ",", ".", "{", "}", "(", ")", "#", "+", "-", "*", "/",
                                "<", " ", "\n", "@", "A", "0", "1", "2", "9", "a", "p", "if ", " up ", " down ",
                                "symbol ", "then", "0000000", "abcdefghi", "0.p", "1.q", "((((((((((", "-----------")));
                        break;
                    case 1:
                        if (at < s.length()) {
                            s.deleteCharAt(at);
                        }
                        break;
                    case 2:
                        int from = below(s.length() + 1);
                        s.insert(at, s.substring(from, Math.min(s.length(), from + below(30))));
                        break;
                    case 3:
                        s.delete(at, Math.min(s.length(), at + below(30)));
                        break;
                    default:
                        if (at < s.length()) {
                            s.setCharAt(at, s.charAt(below(s.length())));
                        }
                        break;
                }
            }
            return s.substring(0, Math.min(2400, s.length()));
        }
    }

    // The class compared with the model

    private static void write(AttributeHouse x, String text) {
        x.end(0);
        for (int i = 0; i < text.length(); i += 4) {
            int signs = 0;
            for (int j = 0; j < 4 && i + j < text.length(); j++) {
                signs |= text.charAt(i + j) << 8 * j;
            }
            x.put(signs);
        }
    }

    private interface Call {
        int run();
    }

    private static long valueOf(Call call) {
        try {
            return call.run();
        } catch (ArithmeticException e) {
            return Long.MIN_VALUE;
        }
    }

    private static long number(Long value) {
        return value == ERROR ? Long.MIN_VALUE : value;
    }

    /** The grammar if it is ordered. */
    private static Ordered compareGrammar(AttributeHouse x, String text) {
        about = text;
        write(x, text);
        Ordered g = null;
        int due;
        try {
            g = new Ordered(new Model(text));
            due = g.answer;
        } catch (Fault fault) {
            due = fault.place;
        }
        is("grammar()", x.grammar(), due);
        saw(due < 0 ? "ordered" : g == null ? "fault" : due < 3000 ? "circular" : "crossed");
        return due < 0 ? g : null;
    }

    private static void compareOrder(AttributeHouse x, Ordered g) {
        is("size(0)", x.size(0), g.m.symbols.size());
        is("size(1)", x.size(1), g.m.productions.size());
        for (int s = 0; s < g.m.symbols.size(); s++) {
            is("level(" + s + ", -1)", x.level(s, -1), g.visits(s));
            saw("visits " + g.visits(s));
            int n = g.m.symbols.get(s).attributes.size();
            int[] masks = new int[g.visits(s) + 1];
            for (int a = 0; a < n; a++) {
                is("level(" + s + ", " + a + ")", x.level(s, a), g.levels.get(s).get(a));
                int store = g.stores.get(new Attribute(s, a));
                boolean down = g.m.symbols.get(s).down.contains(a);
                is("store(" + s + ", " + a + ")", x.store(s, a), store);
                saw((down ? "down" : "up") + " of store " + store);
                masks[g.visitOf(s, a)] += down ? 1 << a : 256 << a;
                for (int b = 0; b < n; b++) {
                    is("depends(" + s + ", " + a + ", " + b + ")", x.depends(s, a, b) ? 1 : 0,
                            Ordered.has(g.ids.get(s), a, b) ? 1 : 0);
                }
            }
            for (int v = 1; v < masks.length; v++) {
                is("visit(" + s + ", " + v + ")", x.visit(s, v), masks[v]);
            }
        }
        for (int i = 0; i < g.m.productions.size(); i++) {
            Production p = g.m.productions.get(i);
            for (int v = 1; v < p.plans.size(); v++) {
                int at = 0;
                for (Object entry : p.plans.get(v)) {
                    int due = entry instanceof Slot y ? 10 + 10 * y.occurrence + y.attribute : (Integer) entry;
                    is("plan(" + i + ", " + v + ", " + at + ")", x.plan(i, v, at++), due);
                }
                is("plan behind its end", x.plan(i, v, at), -1);
            }
        }
    }

    private static Code compareCode(AttributeHouse x, Ordered g) {
        Code code = new Code(g);
        code.starts.forEach((key, due) -> is("start" + key, x.start(key.get(0), key.get(1)), due));
        for (int i = 0; i < code.all.size(); i++) {
            is("code(" + i + ", 0)", x.code(i, 0), code.all.get(i)[0]);
            is("code(" + i + ", 1)", x.code(i, 1), code.all.get(i)[1]);
        }
        try {
            x.code(code.all.size(), 0);
            is("code behind the end throws", 0, 1);
        } catch (IndexOutOfBoundsException e) {
            checks++;
        }
        return code;
    }

    private static TreeModel compareTree(AttributeHouse x, Ordered g, String text) {
        write(x, text);
        TreeModel t = null;
        int due = -1;
        try {
            t = new TreeModel(g, text);
        } catch (Fault fault) {
            due = fault.place;
        }
        is("tree() of " + text, x.tree(), due);
        saw(due < 0 ? "tree" : "fault of a tree");
        return t;
    }

    private static void compareValues(AttributeHouse x, TreeModel t) {
        int[] due = new int[7];
        due[0] = t.nodes.size();
        for (Node n : t.nodes) {
            is("node, 0", x.node(n.number, 0), t.g.m.productions.indexOf(n.production));
            is("node, 1", x.node(n.number, 1), n.parent == null ? -1 : n.parent.number);
            is("node, 2", x.node(n.number, 2), n.literal);
            is("node, 3", x.node(n.number, 3), t.symbol(n));
            due[1] += t.attributes(n);
            due[2] += t.g.visits(t.symbol(n));
            int frames = 0;
            for (Node above = n; above != null; above = above.parent) {
                frames += t.g.frame(above.production).size();
            }
            due[5] = Math.max(due[5], frames);
            for (int a = 0; a < t.attributes(n); a++) {
                int at = a;
                is("value(" + n.number + ", " + a + ")", valueOf(() -> x.value(n.number, at)), number(t.value(n, a)));
                due[3] += t.value(n, a) == ERROR ? 1 : 0;
                due[4] += t.g.stores.get(new Attribute(t.symbol(n), a)) == 2 ? 1 : 0;
            }
        }
        due[6] = (int) t.g.stores.values().stream().filter(store -> store == 0).count();
        for (int what = 0; what < 7; what++) {
            is("count(" + what + ")", x.count(what), due[what]);
        }
        saw(due[3] > 0 ? "tree with errors" : "tree without errors");
    }

    private static int change(TreeModel t, Node n, int literal) {
        List<Long> before = all(t);
        n.literal = literal;
        t.forget();
        List<Long> after = all(t);
        int sum = 0;
        for (int i = 0; i < before.size(); i++) {
            sum += number(before.get(i)) != number(after.get(i)) ? 1 : 0;
        }
        return sum;
    }

    private static List<Long> all(TreeModel t) {
        List<Long> values = new ArrayList<>();
        for (Node n : t.nodes) {
            for (int a = 0; a < t.attributes(n); a++) {
                values.add(t.value(n, a));
            }
        }
        return values;
    }

    private static void compareChanges(AttributeHouse x, TreeModel t, MachineModel machine, Maker maker) {
        Node n = maker.one(t.nodes);
        if (n.production.literal) {
            int literal = maker.below(3) == 0 ? maker.random.nextInt() : maker.below(4);
            machine.literalsChanged |= literal != n.literal;
            is("change", x.change(n.number, literal), change(t, n, literal));
            saw("change");
        }
    }

    private static void compareState(AttributeHouse x, MachineModel machine) {
        boolean over = machine.isOver();
        is("machine(0)", x.machine(0), over ? -1 : machine.place);
        is("machine(1)", x.machine(1), machine.underWay.size());
        is("machine(2)", x.machine(2), machine.stack.size());
        is("machine(3)", x.machine(3), machine.done);
        is("machine(4)", x.machine(4), over ? -1 : machine.last().node.number);
        is("machine(5)", x.machine(5), machine.code.all.size());
        for (int k = 0; k < x.count(6); k++) {
            int at = k;
            is("alone(" + k + ")", valueOf(() -> x.alone(at)), number(machine.variables[k]));
        }
        for (int k = 0; k < machine.stack.size(); k++) {
            int at = k;
            is("top(" + k + ")", valueOf(() -> x.top(at)), number(machine.stack.get(machine.stack.size() - 1 - k)));
        }
        for (Node n : machine.t.nodes) {
            for (int a = 0; a < machine.t.attributes(n); a++) {
                int at = a;
                if (machine.code.g.stores.get(new Attribute(machine.t.symbol(n), a)) == 2) {
                    is("held(" + n.number + ", " + a + ")", valueOf(() -> x.held(n.number, at)),
                            number(n.kept.containsKey(a) ? n.kept.get(a) : Long.valueOf(0)));
                }
            }
        }
    }

    private static void compareMachine(AttributeHouse x, TreeModel t, Code code, Maker maker) {
        MachineModel machine = new MachineModel(t, code);
        is("begin()", x.begin(), machine.place);
        int stride = 1 + maker.below(1 + t.nodes.size() * 4);
        boolean changes = maker.below(2) == 0;
        while (!machine.isOver()) {
            compareState(x, machine);
            int most = maker.below(stride + 1);
            int did = 0;
            for (int i = 0; i < most && !machine.isOver(); i++) {
                machine.step();
                did++;
            }
            is("step(" + most + ")", x.step(most), did);
            if (changes && maker.below(4) == 0) {
                compareChanges(x, t, machine, maker);
            }
        }
        compareState(x, machine);
        is("step when it is over", x.step(10), 0);
        if (!machine.literalsChanged) {
            for (Node n : t.nodes) {
                n.kept.forEach((a, value) -> is("kept at last", number(value), number(t.value(n, a))));
            }
        }
    }

    private static void compareAll(long seed) {
        Maker maker = new Maker(seed);
        AttributeHouse x = new AttributeHouse();
        String text = maker.grammar();
        if (text.length() > 2400) {
            saw("too long");
            return;
        }
        Ordered g = compareGrammar(x, text);
        for (int i = 0; i < 4; i++) {
            compareGrammar(new AttributeHouse(), maker.spoil(text));
        }
        if (g == null) {
            return;
        }
        about = text;
        compareOrder(x, g);
        Code code = compareCode(x, g);
        for (int i = 0; i < 3; i++) {
            String spelled = maker.tree(g, 0, 2 + maker.below(5));
            if (spelled == null || spelled.length() > 2400) {
                continue;
            }
            about = text + "\n  with " + spelled;
            TreeModel t = compareTree(x, g, spelled);
            if (t != null) {
                compareValues(x, t);
                compareMachine(x, t, code, maker);
                compareValues(x, t);
            }
            compareTree(x, g, maker.spoil(spelled));
        }
    }

    public static void main(String[] args) {
        int seeds = args.length > 0 ? Integer.parseInt(args[0]) : 3000;
        for (long seed = 1; seed <= seeds; seed++) {
            compareAll(seed);
        }
        System.out.println(checks + " checks, " + wrong + " wrong, " + seen);
        for (String due : List.of("ordered", "circular", "crossed", "fault", "visits 1", "visits 2", "visits 3",
                "visits 4", "visits 5", "down of store 0", "down of store 1", "down of store 2", "up of store 0", "up of store 1",
                "up of store 2", "tree", "fault of a tree", "tree with errors", "tree without errors", "change")) {
            if (seen.getOrDefault(due, 0) < 20) {
                System.out.println("not met often enough: " + due);
                wrong++;
            }
        }
        if (wrong != 0) {
            System.exit(1);
        }
    }
}
