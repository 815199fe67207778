import java.util.Arrays;

/**
 * Grammars whose symbols have attributes: a text is read, its rules' dependences are worked out, the
 * attributes parted into visits, and a plan made by which the attributes of any tree are evaluated.
 *
 * <p>An attribute of an occurrence in a production has a SLOT, eight times the occurrence and the
 * attribute: a production has at most 32, so that an int holds a set of them, a bit each.
 */
public final class AttributeHouse {
    public static final int NONE = -1;

    private static final int MAX_SIGNS = 2400;
    private static final int MAX_SYMBOLS = 12;
    private static final int MAX_ATTRIBUTES = 8;
    private static final int MAX_PRODUCTIONS = 30;
    private static final int MAX_RIGHT = 3;
    private static final int OCCURRENCES = MAX_RIGHT + 1;
    private static final int SLOTS = OCCURRENCES * MAX_ATTRIBUTES;
    private static final int ALL_ATTRIBUTES = MAX_SYMBOLS * MAX_ATTRIBUTES;
    private static final int ATTRIBUTE_BITS = 255;
    private static final int MAX_NESTING = 10;
    private static final int MAX_NODES = 250;
    private static final int MAX_NAME = 8;
    private static final int MAX_DIGITS = 6;

    // Eight attributes that are down and up by turns, the last one down, reach level 9: five visits.
    private static final int MAX_LEVELS = 9;
    private static final int MAX_VISITS = 5;
    // Visits count from 1 on, and the place behind the last one is kept, too.
    private static final int VISIT_ROW = MAX_VISITS + 2;
    private static final int MAX_ENTRIES = SLOTS + MAX_RIGHT * MAX_VISITS;
    // A token of the text gives at most one instruction; VISIT and BACK come on top.
    private static final int MAX_CODE = MAX_SIGNS + MAX_PRODUCTIONS * (MAX_RIGHT + 1) * MAX_VISITS;
    // Each level of nesting leaves at most three left sides waiting.
    private static final int MAX_STACK = 40;
    private static final int MAX_STEPS = 100000;
    // A node does each instruction of its production at most once.
    private static final int MAX_WORK = MAX_NODES * MAX_CODE;

    // Signs are their own kinds of tokens, so these stay below the lowest sign.
    private static final int END = 0;
    private static final int BAD = 1;
    private static final int NAME = 2;
    private static final int NUMBER = 3;
    private static final int WORD_SYMBOL = 4;
    private static final int WORD_DOWN = 5;
    private static final int WORD_UP = 6;
    private static final int WORD_IF = 7;
    private static final int WORD_THEN = 8;
    private static final int WORD_ELSE = 9;
    private static final String TOKEN_SIGNS = ":=;,.{}()#+-*/<";

    private static final int DO_NUMBER = 0;
    private static final int DO_LITERAL = 1;
    private static final int DO_GET = 2;
    private static final int DO_GET_ALONE = 3;
    private static final int DO_GET_FRAME = 4;
    private static final int DO_GET_ABOVE = 5;
    private static final int DO_NEGATE = 6;
    private static final int DO_ADD = 7;
    private static final int DO_SUBTRACT = 8;
    private static final int DO_MULTIPLY = 9;
    private static final int DO_DIVIDE = 10;
    private static final int DO_BELOW = 11;
    private static final int DO_LIKE = 12;
    private static final int DO_TEST = 13;
    private static final int DO_JUMP = 14;
    private static final int DO_SET = 15;
    private static final int DO_SET_ALONE = 16;
    private static final int DO_SET_FRAME = 17;
    private static final int DO_SET_ABOVE = 18;
    private static final int DO_VISIT = 19;
    private static final int DO_BACK = 20;
    private static final int FROM_GET_TO_SET = DO_SET - DO_GET;

    private static final int STORE_ALONE = 0;
    private static final int STORE_SHORT = 1;
    private static final int STORE_NODE = 2;

    private static final int CIRCULAR = 2000;
    private static final int CROSSED = 3000;

    // No int has this value, so that a long holds an int or the error.
    private static final long ERROR = Long.MIN_VALUE;

    private final Text text;
    private final GrammarReader grammarReader;
    private final TreeReader treeReader;
    private final Order order;
    private final Plans plans;
    private final Stores stores;
    private final Program program;
    private final Machine values;
    private final Machine runner;
    private final long[] valuesBefore;
    private final int[] framesAbove;

    // What is read goes into a spare one first, since a fault must leave all as it is.
    private Grammar grammar;
    private Grammar spareGrammar;
    private Tree tree;
    private Tree spareTree;
    private boolean hasGrammar;
    private boolean hasTree;
    private boolean hasBegun;

    public AttributeHouse() {
        text = new Text();
        Scanner scanner = new Scanner(text);
        grammarReader = new GrammarReader(scanner);
        treeReader = new TreeReader(scanner);
        order = new Order();
        plans = new Plans();
        stores = new Stores(plans);
        program = new Program(plans, stores);
        values = new Machine(program, true);
        runner = new Machine(program, false);
        valuesBefore = new long[MAX_NODES * MAX_ATTRIBUTES];
        framesAbove = new int[MAX_NODES];
        grammar = new Grammar();
        spareGrammar = new Grammar();
        tree = new Tree();
        spareTree = new Tree();
    }

    public int put(int signs) throws IllegalArgumentException, UnsupportedOperationException {
        int more = 0;
        for (int i = 0; i < 4; i++) {
            int sign = signs >>> 8 * i & 255;
            if (sign != 0 && !Text.allows(sign)) {
                throw new IllegalArgumentException();
            }
            if (sign != 0) {
                more++;
            }
        }
        if (text.length + more > MAX_SIGNS) {
            throw new UnsupportedOperationException();
        }
        text.append(signs);
        return text.length;
    }

    public void end(int n) throws IllegalArgumentException {
        if (n < 0 || n > text.length) {
            throw new IllegalArgumentException();
        }
        text.length = n;
    }

    public int grammar() {
        Grammar read = spareGrammar;
        int fault = grammarReader.read(read);
        if (fault != NONE) {
            return fault;
        }
        order.induce(read);
        int circular = order.firstCircular(read);
        if (circular != NONE) {
            return CIRCULAR + circular;
        }
        order.setLevels(read);
        int crossed = order.firstCrossed(read);
        if (crossed != NONE) {
            return CROSSED + crossed;
        }
        takeGrammar(read);
        return NONE;
    }

    private void takeGrammar(Grammar read) {
        spareGrammar = grammar;
        grammar = read;
        hasGrammar = true;
        hasTree = false;
        hasBegun = false;
        plans.make(read);
        stores.find(read);
        program.assemble(read);
    }

    public int size(int what) throws IllegalStateException, IllegalArgumentException {
        needGrammar();
        switch (what) {
            case 0:
                return grammar.symbols;
            case 1:
                return grammar.productions;
            default:
                throw new IllegalArgumentException();
        }
    }

    public boolean depends(int symbol, int a, int b) throws IllegalStateException, IllegalArgumentException {
        needGrammar();
        needAttribute(symbol, a);
        needAttribute(symbol, b);
        return (grammar.induced[symbol * MAX_ATTRIBUTES + a] >>> b & 1) != 0;
    }

    public int level(int symbol, int a) throws IllegalStateException, IllegalArgumentException {
        needGrammar();
        needSymbol(symbol);
        if (a == -1) {
            return grammar.visits[symbol];
        }
        needAttribute(symbol, a);
        return grammar.levels[symbol * MAX_ATTRIBUTES + a];
    }

    public int plan(int production, int visit, int i) throws IllegalStateException, IllegalArgumentException {
        needGrammar();
        needPlan(production, visit);
        if (i < 0) {
            throw new IllegalArgumentException();
        }
        int from = plans.first(production, visit);
        return i < plans.first(production, visit + 1) - from ? plans.entries[from + i] : NONE;
    }

    public int store(int symbol, int a) throws IllegalStateException, IllegalArgumentException {
        needGrammar();
        needAttribute(symbol, a);
        return stores.kinds[symbol * MAX_ATTRIBUTES + a];
    }

    public int tree() throws IllegalStateException {
        needGrammar();
        Tree read = spareTree;
        int fault = treeReader.read(grammar, read);
        if (fault != NONE) {
            return fault;
        }
        spareTree = tree;
        tree = read;
        hasTree = true;
        hasBegun = false;
        evaluate();
        return NONE;
    }

    public int count(int what) throws IllegalStateException, IllegalArgumentException {
        needTree();
        switch (what) {
            case 0:
                return tree.nodes;
            case 1:
                return countAttributes();
            case 2:
                return countVisits();
            case 3:
                return countErrors();
            case 4:
                return countKept();
            case 5:
                return highestFrames();
            case 6:
                return stores.variables;
            default:
                throw new IllegalArgumentException();
        }
    }

    public int node(int n, int what) throws IllegalStateException, IndexOutOfBoundsException, IllegalArgumentException {
        needTree();
        needNode(n);
        switch (what) {
            case 0:
                return tree.production[n];
            case 1:
                return tree.parent[n];
            case 2:
                return tree.literal[n];
            case 3:
                return symbolOf(n);
            default:
                throw new IllegalArgumentException();
        }
    }

    public int value(int n, int a) throws IllegalStateException, IndexOutOfBoundsException, ArithmeticException {
        needTree();
        needNodeAttribute(n, a);
        return number(values.kept[n * MAX_ATTRIBUTES + a]);
    }

    public int change(int n, int literal)
            throws IllegalStateException, IndexOutOfBoundsException, IllegalArgumentException {
        needTree();
        needNode(n);
        if (!grammar.literal[tree.production[n]]) {
            throw new IllegalArgumentException();
        }
        System.arraycopy(values.kept, 0, valuesBefore, 0, valuesBefore.length);
        tree.literal[n] = literal;
        evaluate();
        return countChanged();
    }

    public int visit(int symbol, int visit) throws IllegalStateException, IllegalArgumentException {
        needGrammar();
        needVisit(symbol, visit);
        return grammar.downs(symbol, visit) + 256 * grammar.ups(symbol, visit);
    }

    public int code(int i, int what) throws IllegalStateException, IndexOutOfBoundsException, IllegalArgumentException {
        needGrammar();
        needIndex(i, program.length);
        switch (what) {
            case 0:
                return program.kinds[i];
            case 1:
                return program.numbers[i];
            default:
                throw new IllegalArgumentException();
        }
    }

    public int start(int production, int visit) throws IllegalStateException, IllegalArgumentException {
        needGrammar();
        needPlan(production, visit);
        return program.first(production, visit);
    }

    public int begin() throws IllegalStateException {
        needTree();
        hasBegun = true;
        runner.restart(grammar, tree);
        return runner.place;
    }

    public int step(int n) throws IllegalStateException, IllegalArgumentException {
        needMachine();
        if (n < 0 || n > MAX_STEPS) {
            throw new IllegalArgumentException();
        }
        return runner.run(n);
    }

    public int machine(int what) throws IllegalStateException, IllegalArgumentException {
        needMachine();
        switch (what) {
            case 0:
                return runner.place;
            case 1:
                return runner.depth;
            case 2:
                return runner.height;
            case 3:
                return runner.done;
            case 4:
                return runner.lastNode();
            case 5:
                return program.length;
            default:
                throw new IllegalArgumentException();
        }
    }

    public int alone(int k) throws IllegalStateException, IndexOutOfBoundsException, ArithmeticException {
        needMachine();
        needIndex(k, stores.variables);
        return number(runner.variables[k]);
    }

    public int top(int k) throws IllegalStateException, IndexOutOfBoundsException, ArithmeticException {
        needMachine();
        needIndex(k, runner.height);
        return number(runner.stack[runner.height - 1 - k]);
    }

    public int held(int node, int a)
            throws IllegalStateException, IndexOutOfBoundsException, IllegalArgumentException, ArithmeticException {
        needMachine();
        needNodeAttribute(node, a);
        if (stores.kinds[symbolOf(node) * MAX_ATTRIBUTES + a] != STORE_NODE) {
            throw new IllegalArgumentException();
        }
        return number(runner.kept[node * MAX_ATTRIBUTES + a]);
    }

    private void evaluate() {
        values.restart(grammar, tree);
        values.run(MAX_WORK);
    }

    private int symbolOf(int n) {
        return grammar.symbolAt(tree.production[n], 0);
    }

    private int countAttributes() {
        int sum = 0;
        for (int n = 0; n < tree.nodes; n++) {
            sum += grammar.attributes[symbolOf(n)];
        }
        return sum;
    }

    private int countVisits() {
        int sum = 0;
        for (int n = 0; n < tree.nodes; n++) {
            sum += grammar.visits[symbolOf(n)];
        }
        return sum;
    }

    private int countErrors() {
        int sum = 0;
        for (int n = 0; n < tree.nodes; n++) {
            for (int a = 0; a < grammar.attributes[symbolOf(n)]; a++) {
                if (values.kept[n * MAX_ATTRIBUTES + a] == ERROR) {
                    sum++;
                }
            }
        }
        return sum;
    }

    private int countKept() {
        int sum = 0;
        for (int n = 0; n < tree.nodes; n++) {
            sum += stores.countAhead(symbolOf(n), MAX_ATTRIBUTES, STORE_NODE);
        }
        return sum;
    }

    private int highestFrames() {
        int highest = 0;
        for (int n = 0; n < tree.nodes; n++) {
            int above = tree.parent[n] == NONE ? 0 : framesAbove[tree.parent[n]];
            framesAbove[n] = above + stores.frame(tree.production[n]);
            highest = Math.max(highest, framesAbove[n]);
        }
        return highest;
    }

    private int countChanged() {
        int sum = 0;
        for (int n = 0; n < tree.nodes; n++) {
            for (int a = 0; a < grammar.attributes[symbolOf(n)]; a++) {
                int at = n * MAX_ATTRIBUTES + a;
                if (values.kept[at] != valuesBefore[at]) {
                    sum++;
                }
            }
        }
        return sum;
    }

    private static int number(long value) {
        if (value == ERROR) {
            throw new ArithmeticException();
        }
        return (int) value;
    }

    private void needGrammar() {
        if (!hasGrammar) {
            throw new IllegalStateException();
        }
    }

    private void needTree() {
        if (!hasTree) {
            throw new IllegalStateException();
        }
    }

    private void needMachine() {
        if (!hasBegun) {
            throw new IllegalStateException();
        }
    }

    private void needSymbol(int symbol) {
        if (symbol < 0 || symbol >= grammar.symbols) {
            throw new IllegalArgumentException();
        }
    }

    private void needAttribute(int symbol, int a) {
        needSymbol(symbol);
        if (a < 0 || a >= grammar.attributes[symbol]) {
            throw new IllegalArgumentException();
        }
    }

    private void needVisit(int symbol, int visit) {
        needSymbol(symbol);
        if (visit < 1 || visit > grammar.visits[symbol]) {
            throw new IllegalArgumentException();
        }
    }

    private void needPlan(int production, int visit) {
        if (production < 0 || production >= grammar.productions) {
            throw new IllegalArgumentException();
        }
        needVisit(grammar.symbolAt(production, 0), visit);
    }

    private static void needIndex(int i, int length) {
        if (i < 0 || i >= length) {
            throw new IndexOutOfBoundsException();
        }
    }

    private void needNode(int n) {
        needIndex(n, tree.nodes);
    }

    private void needNodeAttribute(int n, int a) {
        needNode(n);
        needIndex(a, grammar.attributes[symbolOf(n)]);
    }

    private static final class Text {
        final char[] signs = new char[MAX_SIGNS];
        int length;

        static boolean allows(int sign) {
            return sign == '\n' || sign >= 32 && sign <= 126;
        }

        void append(int four) {
            for (int i = 0; i < 4; i++) {
                int sign = four >>> 8 * i & 255;
                if (sign != 0 && length < MAX_SIGNS) {
                    signs[length] = (char) sign;
                    length++;
                }
            }
        }
    }

    /**
     * The tokens of the text, of which it stands at one. Readers stay at a token that can't come: its place is
     * the fault.
     */
    private static final class Scanner {
        private final Text text;
        private final int[] kinds = new int[MAX_SIGNS + 1];
        private final int[] places = new int[MAX_SIGNS + 1];
        private final long[] contents = new long[MAX_SIGNS + 1];
        private int tokens;
        private int at;
        int kind;
        int place;
        int number;
        long name;

        Scanner(Text text) {
            this.text = text;
        }

        void open() {
            tokens = 0;
            int behind = 0;
            boolean more = true;
            while (more && tokens <= MAX_SIGNS) {
                behind = scan(skipBlanks(behind));
                // Nothing behind a token that can't come anywhere matters.
                more = kinds[tokens] != END && kinds[tokens] != BAD;
                tokens++;
            }
            at = NONE;
            advance();
        }

        void advance() {
            if (at + 1 < tokens) {
                at++;
            }
            kind = kinds[at];
            place = places[at];
            number = (int) contents[at];
            name = contents[at];
        }

        boolean take(int wanted) {
            if (kind != wanted) {
                return false;
            }
            advance();
            return true;
        }

        boolean isAheadOfDot() {
            return at + 1 < tokens && kinds[at + 1] == '.';
        }

        private int skipBlanks(int from) {
            int i = from;
            while (i < text.length && (text.signs[i] == ' ' || text.signs[i] == '\n')) {
                i++;
            }
            return i;
        }

        /** Takes down the token that begins there: the place behind it. */
        private int scan(int from) {
            places[tokens] = from;
            if (from >= text.length) {
                kinds[tokens] = END;
                return from;
            }
            char sign = text.signs[from];
            if (isLetter(sign)) {
                return scanName(from);
            }
            if (isDigit(sign)) {
                return scanNumber(from);
            }
            kinds[tokens] = TOKEN_SIGNS.indexOf(sign) >= 0 ? sign : BAD;
            return from + 1;
        }

        private int scanName(int from) {
            long letters = 0;
            int i = from;
            while (i < text.length && isLetter(text.signs[i])) {
                // Five bits a letter and none of them 0, so that eight letters fit and unlike names differ.
                letters = letters << 5 | text.signs[i] - 'a' + 1;
                i++;
            }
            contents[tokens] = letters;
            kinds[tokens] = i - from > MAX_NAME ? BAD : kindOfName(from, i);
            return i;
        }

        private int scanNumber(int from) {
            long digits = 0;
            int i = from;
            while (i < text.length && isDigit(text.signs[i])) {
                digits = digits * 10 + text.signs[i] - '0';
                i++;
            }
            contents[tokens] = digits;
            kinds[tokens] = i - from > MAX_DIGITS ? BAD : NUMBER;
            return i;
        }

        private int kindOfName(int from, int to) {
            if (spells("symbol", from, to)) {
                return WORD_SYMBOL;
            }
            if (spells("down", from, to)) {
                return WORD_DOWN;
            }
            if (spells("up", from, to)) {
                return WORD_UP;
            }
            if (spells("if", from, to)) {
                return WORD_IF;
            }
            if (spells("then", from, to)) {
                return WORD_THEN;
            }
            return spells("else", from, to) ? WORD_ELSE : NAME;
        }

        private boolean spells(String word, int from, int to) {
            if (to - from != word.length()) {
                return false;
            }
            for (int i = 0; i < word.length(); i++) {
                if (text.signs[from + i] != word.charAt(i)) {
                    return false;
                }
            }
            return true;
        }

        private static boolean isLetter(char sign) {
            return sign >= 'a' && sign <= 'z';
        }

        private static boolean isDigit(char sign) {
            return sign >= '0' && sign <= '9';
        }
    }

    /** What a text says, and what Order finds out of it. */
    private static final class Grammar {
        int symbols;
        final long[] symbolNames = new long[MAX_SYMBOLS];
        final int[] attributes = new int[MAX_SYMBOLS];
        final int[] down = new int[MAX_SYMBOLS];
        final long[] attributeNames = new long[ALL_ATTRIBUTES];
        int productions;
        final long[] productionNames = new long[MAX_PRODUCTIONS];
        final int[] right = new int[MAX_PRODUCTIONS];
        final int[] occurrences = new int[MAX_PRODUCTIONS * OCCURRENCES];
        final boolean[] literal = new boolean[MAX_PRODUCTIONS];
        final int[] defined = new int[MAX_PRODUCTIONS];
        final int[] named = new int[MAX_PRODUCTIONS * SLOTS];
        final int[] ruleFrom = new int[MAX_PRODUCTIONS * SLOTS];
        final int[] ruleTo = new int[MAX_PRODUCTIONS * SLOTS];
        // The code of all rules as they stand in the text; a GET has its slot.
        int length;
        final int[] kinds = new int[MAX_SIGNS];
        final int[] numbers = new int[MAX_SIGNS];
        final int[] induced = new int[ALL_ATTRIBUTES];
        final int[] levels = new int[ALL_ATTRIBUTES];
        final int[] visits = new int[MAX_SYMBOLS];

        void clear() {
            symbols = 0;
            productions = 0;
            length = 0;
        }

        void addSymbol(long name) {
            symbolNames[symbols] = name;
            attributes[symbols] = 0;
            down[symbols] = 0;
            symbols++;
        }

        void addAttribute(int symbol, long name, boolean isDown) {
            int a = attributes[symbol];
            attributeNames[symbol * MAX_ATTRIBUTES + a] = name;
            if (isDown) {
                down[symbol] |= 1 << a;
            }
            attributes[symbol] = a + 1;
        }

        void addProduction(long name) {
            productionNames[productions] = name;
            right[productions] = 0;
            literal[productions] = false;
            defined[productions] = 0;
            Arrays.fill(named, productions * SLOTS, (productions + 1) * SLOTS, 0);
            productions++;
        }

        int emit(int kind, int number) {
            if (length < MAX_SIGNS) {
                kinds[length] = kind;
                numbers[length] = number;
                length++;
            }
            return length - 1;
        }

        int findSymbol(long name) {
            for (int s = 0; s < symbols; s++) {
                if (symbolNames[s] == name) {
                    return s;
                }
            }
            return NONE;
        }

        int findProduction(long name) {
            for (int p = 0; p < productions; p++) {
                if (productionNames[p] == name) {
                    return p;
                }
            }
            return NONE;
        }

        int findAttribute(int symbol, long name) {
            for (int a = 0; a < attributes[symbol]; a++) {
                if (attributeNames[symbol * MAX_ATTRIBUTES + a] == name) {
                    return a;
                }
            }
            return NONE;
        }

        int symbolAt(int production, int occurrence) {
            return occurrences[production * OCCURRENCES + occurrence];
        }

        int allOf(int symbol) {
            return (1 << attributes[symbol]) - 1;
        }

        boolean isDown(int symbol, int a) {
            return (down[symbol] >>> a & 1) != 0;
        }

        /** The slots for which a production must have a rule. */
        int definable(int production) {
            int head = symbolAt(production, 0);
            int slots = allOf(head) & ~down[head];
            for (int o = 1; o <= right[production]; o++) {
                slots |= down[symbolAt(production, o)] << o * MAX_ATTRIBUTES;
            }
            return slots;
        }

        int visitOf(int symbol, int a) {
            return visits[symbol] + 1 - (levels[symbol * MAX_ATTRIBUTES + a] + 1) / 2;
        }

        int downs(int symbol, int visit) {
            return inVisit(symbol, visit) & down[symbol];
        }

        int ups(int symbol, int visit) {
            return inVisit(symbol, visit) & ~down[symbol];
        }

        private int inVisit(int symbol, int visit) {
            int set = 0;
            for (int a = 0; a < attributes[symbol]; a++) {
                if (visitOf(symbol, a) == visit) {
                    set |= 1 << a;
                }
            }
            return set;
        }
    }

    /** Each method answers whether all could come there; if not, the scanner stands at the fault. */
    private static final class GrammarReader {
        private final Scanner scanner;
        private Grammar grammar;
        private int production;
        private int names;

        GrammarReader(Scanner scanner) {
            this.scanner = scanner;
        }

        int read(Grammar into) {
            grammar = into;
            into.clear();
            scanner.open();
            boolean fine = readSymbol();
            for (int i = 1; fine && i < MAX_SYMBOLS && scanner.kind == WORD_SYMBOL; i++) {
                fine = readSymbol();
            }
            fine = fine && readProduction();
            for (int i = 1; fine && i < MAX_PRODUCTIONS && scanner.kind != END; i++) {
                fine = readProduction();
            }
            return fine && scanner.kind == END ? NONE : scanner.place;
        }

        private boolean readSymbol() {
            if (!scanner.take(WORD_SYMBOL) || scanner.kind != NAME || grammar.findSymbol(scanner.name) != NONE) {
                return false;
            }
            int symbol = grammar.symbols;
            grammar.addSymbol(scanner.name);
            scanner.advance();
            if (scanner.kind == WORD_DOWN && (symbol == 0 || !readAttributes(symbol, true))) {
                return false;
            }
            if (scanner.kind == WORD_UP && !readAttributes(symbol, false)) {
                return false;
            }
            return scanner.take(';');
        }

        private boolean readAttributes(int symbol, boolean areDown) {
            for (int i = 0; i <= MAX_ATTRIBUTES; i++) {
                scanner.advance();
                if (scanner.kind != NAME || grammar.attributes[symbol] == MAX_ATTRIBUTES
                        || grammar.findAttribute(symbol, scanner.name) != NONE) {
                    return false;
                }
                grammar.addAttribute(symbol, scanner.name, areDown);
                scanner.advance();
                if (scanner.kind != ',') {
                    return true;
                }
            }
            return false;
        }

        private boolean readProduction() {
            if (scanner.kind != NAME || grammar.findProduction(scanner.name) != NONE) {
                return false;
            }
            production = grammar.productions;
            grammar.addProduction(scanner.name);
            scanner.advance();
            if (!scanner.take(':') || !readOccurrence(0) || !scanner.take('=') || !readRight()
                    || !scanner.take('{')) {
                return false;
            }
            // One rule more than there can be: it is at fault where it names its attribute.
            for (int i = 0; i <= SLOTS && scanner.kind == NUMBER; i++) {
                if (!readRule()) {
                    return false;
                }
            }
            return grammar.defined[production] == grammar.definable(production) && scanner.take('}');
        }

        private boolean readOccurrence(int occurrence) {
            int symbol = scanner.kind == NAME ? grammar.findSymbol(scanner.name) : NONE;
            if (symbol == NONE) {
                return false;
            }
            grammar.occurrences[production * OCCURRENCES + occurrence] = symbol;
            scanner.advance();
            return true;
        }

        private boolean readRight() {
            grammar.literal[production] = scanner.take('#');
            for (int o = 1; o <= MAX_RIGHT && scanner.kind == NAME; o++) {
                if (!readOccurrence(o)) {
                    return false;
                }
                grammar.right[production] = o;
            }
            return true;
        }

        private boolean readRule() {
            int slot = readSlot(true);
            if (slot == NONE || !scanner.take('=')) {
                return false;
            }
            int at = production * SLOTS + slot;
            grammar.defined[production] |= 1 << slot;
            grammar.ruleFrom[at] = grammar.length;
            names = 0;
            if (!readExpression(0)) {
                return false;
            }
            grammar.ruleTo[at] = grammar.length;
            grammar.named[at] = names;
            return scanner.take(';');
        }

        /** OCCURRENCE . ATTRIBUTE: its slot, or NONE at a fault. */
        private int readSlot(boolean defines) {
            int o = scanner.number;
            if (scanner.kind != NUMBER || o > grammar.right[production]) {
                return NONE;
            }
            scanner.advance();
            if (!scanner.take('.') || scanner.kind != NAME) {
                return NONE;
            }
            int symbol = grammar.symbolAt(production, o);
            int a = grammar.findAttribute(symbol, scanner.name);
            if (a == NONE || grammar.isDown(symbol, a) != (defines == o > 0)) {
                return NONE;
            }
            int slot = o * MAX_ATTRIBUTES + a;
            if (defines && (grammar.defined[production] >>> slot & 1) != 0) {
                return NONE;
            }
            scanner.advance();
            return slot;
        }

        private boolean readExpression(int nesting) {
            if (scanner.kind == WORD_IF) {
                return readChoice(nesting);
            }
            if (!readSum(nesting)) {
                return false;
            }
            int sign = scanner.kind;
            if (sign != '<' && sign != '=') {
                return true;
            }
            scanner.advance();
            if (!readSum(nesting)) {
                return false;
            }
            grammar.emit(sign == '<' ? DO_BELOW : DO_LIKE, 0);
            return true;
        }

        private boolean readChoice(int nesting) {
            if (nesting >= MAX_NESTING) {
                return false;
            }
            scanner.advance();
            if (!readExpression(nesting + 1) || !scanner.take(WORD_THEN)) {
                return false;
            }
            int test = grammar.emit(DO_TEST, 0);
            if (!readExpression(nesting + 1) || !scanner.take(WORD_ELSE)) {
                return false;
            }
            int jump = grammar.emit(DO_JUMP, 0);
            grammar.numbers[test] = grammar.length;
            if (!readExpression(nesting + 1)) {
                return false;
            }
            grammar.numbers[jump] = grammar.length;
            return true;
        }

        private boolean readSum(int nesting) {
            if (!readProduct(nesting)) {
                return false;
            }
            for (int i = 0; i < MAX_SIGNS && (scanner.kind == '+' || scanner.kind == '-'); i++) {
                int sign = scanner.kind;
                scanner.advance();
                if (!readProduct(nesting)) {
                    return false;
                }
                grammar.emit(sign == '+' ? DO_ADD : DO_SUBTRACT, 0);
            }
            return true;
        }

        private boolean readProduct(int nesting) {
            if (!readFactor(nesting)) {
                return false;
            }
            for (int i = 0; i < MAX_SIGNS && (scanner.kind == '*' || scanner.kind == '/'); i++) {
                int sign = scanner.kind;
                scanner.advance();
                if (!readFactor(nesting)) {
                    return false;
                }
                grammar.emit(sign == '*' ? DO_MULTIPLY : DO_DIVIDE, 0);
            }
            return true;
        }

        private boolean readFactor(int nesting) {
            if (scanner.kind == NUMBER && scanner.isAheadOfDot()) {
                int slot = readSlot(false);
                if (slot == NONE) {
                    return false;
                }
                names |= 1 << slot;
                grammar.emit(DO_GET, slot);
                return true;
            }
            switch (scanner.kind) {
                case NUMBER:
                    return readLeaf(DO_NUMBER, scanner.number);
                case '#':
                    return grammar.literal[production] && readLeaf(DO_LITERAL, 0);
                case '-':
                    return nesting < MAX_NESTING && readNegated(nesting + 1);
                case '(':
                    return nesting < MAX_NESTING && readBracket(nesting + 1);
                default:
                    return false;
            }
        }

        private boolean readLeaf(int kind, int number) {
            grammar.emit(kind, number);
            scanner.advance();
            return true;
        }

        private boolean readNegated(int nesting) {
            scanner.advance();
            if (!readFactor(nesting)) {
                return false;
            }
            grammar.emit(DO_NEGATE, 0);
            return true;
        }

        private boolean readBracket(int nesting) {
            scanner.advance();
            return readExpression(nesting) && scanner.take(')');
        }
    }

    /** Induced dependences, levels, and whether a grammar is ordered. */
    private static final class Order {
        // A row for each slot of each production: the slots on which it depends.
        private final int[] rows = new int[MAX_PRODUCTIONS * SLOTS];

        void induce(Grammar g) {
            System.arraycopy(g.named, 0, rows, 0, g.productions * SLOTS);
            Arrays.fill(g.induced, 0);
            boolean grew = true;
            // Each round but the last finds a pair of attributes that was not there.
            for (int round = 0; grew && round <= ALL_ATTRIBUTES * MAX_ATTRIBUTES; round++) {
                grew = false;
                for (int p = 0; p < g.productions; p++) {
                    addInduced(g, p);
                    close(g, p);
                    grew |= collectInduced(g, p);
                }
            }
        }

        int firstCircular(Grammar g) {
            for (int p = 0; p < g.productions; p++) {
                if (hasCircle(p)) {
                    return p;
                }
            }
            return NONE;
        }

        int firstCrossed(Grammar g) {
            System.arraycopy(g.named, 0, rows, 0, g.productions * SLOTS);
            for (int p = 0; p < g.productions; p++) {
                addLevels(g, p);
                close(g, p);
                if (hasCircle(p)) {
                    return p;
                }
            }
            return NONE;
        }

        void setLevels(Grammar g) {
            for (int s = 0; s < g.symbols; s++) {
                int all = g.allOf(s);
                int done = 0;
                int highest = 1;
                for (int k = 1; done != all && k <= MAX_LEVELS; k++) {
                    int kind = k % 2 == 1 ? ~g.down[s] : g.down[s];
                    int chosen = choose(g, s, done, kind & all & ~done);
                    for (int a = 0; a < g.attributes[s]; a++) {
                        if ((chosen >>> a & 1) != 0) {
                            g.levels[s * MAX_ATTRIBUTES + a] = k;
                        }
                    }
                    done |= chosen;
                    highest = k;
                }
                g.visits[s] = (highest + 1) / 2;
            }
        }

        /** The most of these on which nothing depends but what is done or among them. */
        private static int choose(Grammar g, int symbol, int done, int from) {
            int chosen = from;
            for (int round = 0; round < MAX_ATTRIBUTES; round++) {
                for (int b = 0; b < g.attributes[symbol]; b++) {
                    if (((done | chosen) >>> b & 1) == 0) {
                        chosen &= ~g.induced[symbol * MAX_ATTRIBUTES + b];
                    }
                }
            }
            return chosen;
        }

        private void addInduced(Grammar g, int p) {
            for (int o = 0; o <= g.right[p]; o++) {
                int symbol = g.symbolAt(p, o);
                for (int a = 0; a < g.attributes[symbol]; a++) {
                    int set = g.induced[symbol * MAX_ATTRIBUTES + a];
                    rows[p * SLOTS + o * MAX_ATTRIBUTES + a] |= set << o * MAX_ATTRIBUTES;
                }
            }
        }

        private boolean collectInduced(Grammar g, int p) {
            boolean grew = false;
            for (int o = 0; o <= g.right[p]; o++) {
                int symbol = g.symbolAt(p, o);
                for (int a = 0; a < g.attributes[symbol]; a++) {
                    int found = rows[p * SLOTS + o * MAX_ATTRIBUTES + a] >>> o * MAX_ATTRIBUTES & ATTRIBUTE_BITS;
                    int at = symbol * MAX_ATTRIBUTES + a;
                    grew |= (found & ~g.induced[at]) != 0;
                    g.induced[at] |= found;
                }
            }
            return grew;
        }

        private void addLevels(Grammar g, int p) {
            for (int o = 0; o <= g.right[p]; o++) {
                int symbol = g.symbolAt(p, o);
                for (int a = 0; a < g.attributes[symbol]; a++) {
                    int next = atLevel(g, symbol, g.levels[symbol * MAX_ATTRIBUTES + a] + 1);
                    rows[p * SLOTS + o * MAX_ATTRIBUTES + a] |= next << o * MAX_ATTRIBUTES;
                }
            }
        }

        private static int atLevel(Grammar g, int symbol, int level) {
            int set = 0;
            for (int a = 0; a < g.attributes[symbol]; a++) {
                if (g.levels[symbol * MAX_ATTRIBUTES + a] == level) {
                    set |= 1 << a;
                }
            }
            return set;
        }

        private void close(Grammar g, int p) {
            int base = p * SLOTS;
            int slots = (g.right[p] + 1) * MAX_ATTRIBUTES;
            for (int y = 0; y < slots; y++) {
                for (int x = 0; x < slots; x++) {
                    if ((rows[base + x] >>> y & 1) != 0) {
                        rows[base + x] |= rows[base + y];
                    }
                }
            }
        }

        private boolean hasCircle(int p) {
            for (int x = 0; x < SLOTS; x++) {
                if ((rows[p * SLOTS + x] >>> x & 1) != 0) {
                    return true;
                }
            }
            return false;
        }
    }

    /** The plans of all productions, one behind the other, in the form in which plan() answers. */
    private static final class Plans {
        final int[] entries = new int[MAX_PRODUCTIONS * MAX_ENTRIES];
        // Of an entry: the visit of the head in whose plan it is, and which visit it makes (0: none).
        final int[] headVisit = new int[MAX_PRODUCTIONS * MAX_ENTRIES];
        final int[] madeVisit = new int[MAX_PRODUCTIONS * MAX_ENTRIES];
        private final int[] firsts = new int[MAX_PRODUCTIONS * VISIT_ROW];
        private final int[] evaluatedAt = new int[MAX_PRODUCTIONS * SLOTS];
        private final int[] visitedAt = new int[MAX_PRODUCTIONS * OCCURRENCES * VISIT_ROW];
        private final int[] visited = new int[OCCURRENCES];
        private Grammar grammar;
        private int length;
        private int there;
        private int evaluated;

        void make(Grammar g) {
            grammar = g;
            length = 0;
            for (int p = 0; p < g.productions; p++) {
                makeAll(p);
            }
        }

        /** The entry with which the plan of a visit begins; of one visit too many, where the last ends. */
        int first(int production, int visit) {
            return firsts[production * VISIT_ROW + visit];
        }

        int entryOfRule(int production, int slot) {
            return evaluatedAt[production * SLOTS + slot];
        }

        int entryOfVisit(int production, int occurrence, int visit) {
            return visitedAt[(production * OCCURRENCES + occurrence) * VISIT_ROW + visit];
        }

        boolean isVisit(int entry) {
            return madeVisit[entry] != 0;
        }

        int occurrenceOf(int entry) {
            return isVisit(entry) ? entries[entry] : entries[entry] / 10 - 1;
        }

        int attributeOf(int entry) {
            return entries[entry] % 10;
        }

        private void makeAll(int p) {
            int head = grammar.symbolAt(p, 0);
            there = 0;
            evaluated = 0;
            Arrays.fill(visited, 0);
            for (int visit = 1; visit <= grammar.visits[head]; visit++) {
                firsts[p * VISIT_ROW + visit] = length;
                there |= grammar.downs(head, visit);
                boolean busy = true;
                for (int round = 0; busy && round <= MAX_ENTRIES; round++) {
                    int before = length;
                    evaluateReady(p, visit);
                    visitReady(p, visit);
                    busy = length > before;
                }
            }
            firsts[p * VISIT_ROW + grammar.visits[head] + 1] = length;
        }

        private void evaluateReady(int p, int visit) {
            for (int slot = 0; slot < SLOTS; slot++) {
                int bit = 1 << slot;
                boolean waits = (grammar.defined[p] & ~evaluated & bit) != 0;
                if (waits && (grammar.named[p * SLOTS + slot] & ~there) == 0) {
                    evaluated |= bit;
                    there |= bit;
                    evaluatedAt[p * SLOTS + slot] = length;
                    add(10 + 10 * (slot / MAX_ATTRIBUTES) + slot % MAX_ATTRIBUTES, visit, 0);
                }
            }
        }

        private void visitReady(int p, int visit) {
            for (int o = 1; o <= grammar.right[p]; o++) {
                int symbol = grammar.symbolAt(p, o);
                int next = visited[o] + 1;
                int shift = o * MAX_ATTRIBUTES;
                if (next <= grammar.visits[symbol] && (grammar.downs(symbol, next) << shift & ~there) == 0) {
                    visited[o] = next;
                    there |= grammar.ups(symbol, next) << shift;
                    visitedAt[(p * OCCURRENCES + o) * VISIT_ROW + next] = length;
                    add(o, visit, next);
                }
            }
        }

        private void add(int entry, int visit, int made) {
            if (length < entries.length) {
                entries[length] = entry;
                headVisit[length] = visit;
                madeVisit[length] = made;
                length++;
            }
        }
    }

    /** Where the machine keeps each attribute. */
    private static final class Stores {
        private final Plans plans;
        private Grammar grammar;
        // For each visit of each symbol, for each symbol: the attributes of it that the visit defines.
        private final int[] defines = new int[MAX_SYMBOLS * VISIT_ROW * MAX_SYMBOLS];
        final int[] kinds = new int[ALL_ATTRIBUTES];
        final int[] variableOf = new int[ALL_ATTRIBUTES];
        int variables;

        Stores(Plans plans) {
            this.plans = plans;
        }

        void find(Grammar g) {
            grammar = g;
            variables = 0;
            findDefined();
            for (int s = 0; s < g.symbols; s++) {
                for (int a = 0; a < g.attributes[s]; a++) {
                    int at = s * MAX_ATTRIBUTES + a;
                    kinds[at] = s == 0 ? STORE_NODE : kindOf(s, a);
                    variableOf[at] = variables;
                    if (kinds[at] == STORE_ALONE) {
                        variables++;
                    }
                }
            }
        }

        /** How many of a symbol's attributes of a store are ahead of attribute a. */
        int countAhead(int symbol, int a, int kind) {
            int sum = 0;
            for (int i = 0; i < a && i < grammar.attributes[symbol]; i++) {
                if (kinds[symbol * MAX_ATTRIBUTES + i] == kind) {
                    sum++;
                }
            }
            return sum;
        }

        int frame(int production) {
            return frameAhead(production, grammar.right[production] + 1);
        }

        /** How many places of the frame belong to occurrences ahead of this one. */
        int frameAhead(int production, int occurrence) {
            int sum = 0;
            for (int o = 1; o < occurrence; o++) {
                sum += countAhead(grammar.symbolAt(production, o), MAX_ATTRIBUTES, STORE_SHORT);
            }
            return sum;
        }

        private void findDefined() {
            Arrays.fill(defines, 0);
            boolean grew = true;
            // Each round but the last adds an attribute to what some visit defines.
            for (int round = 0; grew && round <= defines.length * MAX_ATTRIBUTES; round++) {
                grew = false;
                for (int p = 0; p < grammar.productions; p++) {
                    grew |= collectDefined(p);
                }
            }
        }

        private boolean collectDefined(int p) {
            boolean grew = false;
            int head = grammar.symbolAt(p, 0);
            int last = plans.first(p, grammar.visits[head] + 1);
            for (int entry = plans.first(p, 1); entry < last; entry++) {
                int row = rowOf(head, plans.headVisit[entry]);
                int symbol = grammar.symbolAt(p, plans.occurrenceOf(entry));
                if (plans.isVisit(entry)) {
                    int from = rowOf(symbol, plans.madeVisit[entry]);
                    for (int s = 0; s < grammar.symbols; s++) {
                        grew |= addDefined(row + s, defines[from + s]);
                    }
                } else {
                    grew |= addDefined(row + symbol, 1 << plans.attributeOf(entry));
                }
            }
            return grew;
        }

        private boolean addDefined(int at, int set) {
            boolean grew = (set & ~defines[at]) != 0;
            defines[at] |= set;
            return grew;
        }

        private static int rowOf(int symbol, int visit) {
            return (symbol * VISIT_ROW + visit) * MAX_SYMBOLS;
        }

        private int kindOf(int s, int a) {
            for (int p = 0; p < grammar.productions; p++) {
                for (int o = 0; o <= grammar.right[p]; o++) {
                    if (grammar.symbolAt(p, o) == s && !isShortAt(p, o, a)) {
                        return STORE_NODE;
                    }
                }
            }
            for (int p = 0; p < grammar.productions; p++) {
                for (int o = 0; o <= grammar.right[p]; o++) {
                    if (grammar.symbolAt(p, o) == s && !isAloneAt(p, o, a)) {
                        return STORE_SHORT;
                    }
                }
            }
            return STORE_ALONE;
        }

        /** Whether what a production does with an attribute of an occurrence lets it be kept short. */
        private boolean isShortAt(int p, int o, int a) {
            int symbol = grammar.symbolAt(p, o);
            int slot = o * MAX_ATTRIBUTES + a;
            int visit = grammar.visitOf(symbol, a);
            int due = o == 0 ? visit : plans.headVisit[plans.entryOfVisit(p, o, visit)];
            if (grammar.isDown(symbol, a) == (o == 0)) {
                return namedOnlyIn(p, slot, due);
            }
            return plans.headVisit[plans.entryOfRule(p, slot)] == due;
        }

        private boolean namedOnlyIn(int p, int slot, int visit) {
            for (int x = 0; x < SLOTS; x++) {
                if (names(p, x, slot) && plans.headVisit[plans.entryOfRule(p, x)] != visit) {
                    return false;
                }
            }
            return true;
        }

        /** Of an attribute that is kept short: whether nothing here defines it while it is needed. */
        private boolean isAloneAt(int p, int o, int a) {
            int symbol = grammar.symbolAt(p, o);
            int slot = o * MAX_ATTRIBUTES + a;
            int visit = grammar.visitOf(symbol, a);
            if (o == 0) {
                return grammar.isDown(symbol, a)
                        ? isFree(p, plans.first(p, visit), lastNaming(p, slot), symbol, a)
                        : isFree(p, plans.entryOfRule(p, slot) + 1, plans.first(p, visit + 1), symbol, a);
            }
            int made = plans.entryOfVisit(p, o, visit);
            return grammar.isDown(symbol, a)
                    ? isFree(p, plans.entryOfRule(p, slot) + 1, made, symbol, a)
                    : isFree(p, made + 1, lastNaming(p, slot), symbol, a);
        }

        /** The last entry whose rule names a slot; NONE if there is none. */
        private int lastNaming(int p, int slot) {
            int last = NONE;
            for (int x = 0; x < SLOTS; x++) {
                if (names(p, x, slot)) {
                    last = Math.max(last, plans.entryOfRule(p, x));
                }
            }
            return last;
        }

        private boolean names(int p, int x, int slot) {
            return (grammar.named[p * SLOTS + x] >>> slot & 1) != 0;
        }

        /** Whether none of a production's entries from .. to - 1 defines the attribute. */
        private boolean isFree(int p, int from, int to, int symbol, int a) {
            for (int entry = from; entry < to; entry++) {
                int other = grammar.symbolAt(p, plans.occurrenceOf(entry));
                int set;
                if (plans.isVisit(entry)) {
                    set = defines[rowOf(other, plans.madeVisit[entry]) + symbol];
                } else {
                    set = other == symbol ? 1 << plans.attributeOf(entry) : 0;
                }
                if ((set >>> a & 1) != 0) {
                    return false;
                }
            }
            return true;
        }
    }

    /** The instructions of the grammar. */
    private static final class Program {
        private final Plans plans;
        private final Stores stores;
        private Grammar grammar;
        final int[] kinds = new int[MAX_CODE];
        final int[] numbers = new int[MAX_CODE];
        // The slot of a GET or SET, whatever its store.
        final int[] slots = new int[MAX_CODE];
        private final int[] firsts = new int[MAX_PRODUCTIONS * VISIT_ROW];
        int length;

        Program(Plans plans, Stores stores) {
            this.plans = plans;
            this.stores = stores;
        }

        int first(int production, int visit) {
            return firsts[production * VISIT_ROW + visit];
        }

        void assemble(Grammar g) {
            grammar = g;
            length = 0;
            for (int p = 0; p < g.productions; p++) {
                int visits = g.visits[g.symbolAt(p, 0)];
                for (int visit = 1; visit <= visits; visit++) {
                    firsts[p * VISIT_ROW + visit] = length;
                    for (int e = plans.first(p, visit); e < plans.first(p, visit + 1); e++) {
                        addEntry(p, e);
                    }
                    add(DO_BACK, 0, 0);
                }
            }
        }

        private void addEntry(int p, int entry) {
            int o = plans.occurrenceOf(entry);
            if (plans.isVisit(entry)) {
                add(DO_VISIT, o, 0);
                return;
            }
            int slot = o * MAX_ATTRIBUTES + plans.attributeOf(entry);
            addExpression(p, slot);
            add(getKind(p, slot) + FROM_GET_TO_SET, getNumber(p, slot), slot);
        }

        private void addExpression(int p, int slot) {
            int from = grammar.ruleFrom[p * SLOTS + slot];
            int to = grammar.ruleTo[p * SLOTS + slot];
            int moved = length - from;
            for (int i = from; i < to; i++) {
                int kind = grammar.kinds[i];
                int number = grammar.numbers[i];
                if (kind == DO_GET) {
                    add(getKind(p, number), getNumber(p, number), number);
                } else {
                    add(kind, kind == DO_TEST || kind == DO_JUMP ? number + moved : number, 0);
                }
            }
        }

        private int attributeAt(int p, int slot) {
            return grammar.symbolAt(p, slot / MAX_ATTRIBUTES) * MAX_ATTRIBUTES + slot % MAX_ATTRIBUTES;
        }

        private int getKind(int p, int slot) {
            switch (stores.kinds[attributeAt(p, slot)]) {
                case STORE_ALONE:
                    return DO_GET_ALONE;
                case STORE_SHORT:
                    return slot < MAX_ATTRIBUTES ? DO_GET_ABOVE : DO_GET_FRAME;
                default:
                    return DO_GET;
            }
        }

        private int getNumber(int p, int slot) {
            int o = slot / MAX_ATTRIBUTES;
            int a = slot % MAX_ATTRIBUTES;
            switch (stores.kinds[attributeAt(p, slot)]) {
                case STORE_ALONE:
                    return stores.variableOf[attributeAt(p, slot)];
                case STORE_SHORT:
                    return stores.frameAhead(p, o) + stores.countAhead(grammar.symbolAt(p, o), a, STORE_SHORT);
                default:
                    return 10 * o + a;
            }
        }

        private void add(int kind, int number, int slot) {
            if (length < MAX_CODE) {
                kinds[length] = kind;
                numbers[length] = number;
                slots[length] = slot;
                length++;
            }
        }
    }

    private static final class Tree {
        int nodes;
        final int[] production = new int[MAX_NODES];
        final int[] parent = new int[MAX_NODES];
        final int[] literal = new int[MAX_NODES];
        final int[] children = new int[MAX_NODES];
        private final int[] child = new int[MAX_NODES * OCCURRENCES];

        void add(int itsProduction, int itsParent) {
            production[nodes] = itsProduction;
            parent[nodes] = itsParent;
            literal[nodes] = 0;
            children[nodes] = 0;
            child[nodes * OCCURRENCES] = nodes;
            if (itsParent != NONE) {
                children[itsParent]++;
                child[itsParent * OCCURRENCES + children[itsParent]] = nodes;
            }
            nodes++;
        }

        /** The node that is an occurrence of a node's production: itself for 0. */
        int nodeAt(int n, int occurrence) {
            return child[n * OCCURRENCES + occurrence];
        }
    }

    /** Goes without recursion, since a tree may be as deep as it has nodes. */
    private static final class TreeReader {
        private final Scanner scanner;
        private Grammar grammar;
        private Tree tree;
        // The node whose children are being read.
        private int above;

        TreeReader(Scanner scanner) {
            this.scanner = scanner;
        }

        int read(Grammar g, Tree into) {
            grammar = g;
            tree = into;
            into.nodes = 0;
            scanner.open();
            return readNodes() ? NONE : scanner.place;
        }

        private boolean readNodes() {
            above = NONE;
            for (int n = 0; n < MAX_NODES; n++) {
                if (!readHead()) {
                    return false;
                }
                if (grammar.right[tree.production[n]] > 0) {
                    above = n;
                    if (!scanner.take('(')) {
                        return false;
                    }
                } else {
                    if (!closeFull()) {
                        return false;
                    }
                    if (above == NONE) {
                        return scanner.kind == END;
                    }
                    if (!scanner.take(',')) {
                        return false;
                    }
                }
            }
            return false;
        }

        private boolean readHead() {
            int symbol = above == NONE ? 0 : grammar.symbolAt(tree.production[above], tree.children[above] + 1);
            int p = scanner.kind == NAME ? grammar.findProduction(scanner.name) : NONE;
            if (p == NONE || grammar.symbolAt(p, 0) != symbol) {
                return false;
            }
            tree.add(p, above);
            scanner.advance();
            return !grammar.literal[p] || readLiteral();
        }

        private boolean readLiteral() {
            boolean negative = scanner.take('-');
            if (scanner.kind != NUMBER) {
                return false;
            }
            tree.literal[tree.nodes - 1] = negative ? -scanner.number : scanner.number;
            scanner.advance();
            return true;
        }

        private boolean closeFull() {
            for (int i = 0; i < MAX_NODES && above != NONE; i++) {
                if (tree.children[above] < grammar.right[tree.production[above]]) {
                    return true;
                }
                if (!scanner.take(')')) {
                    return false;
                }
                above = tree.parent[above];
            }
            return true;
        }
    }

    /**
     * Does the program's instructions on a tree. Store 1 is kept with the child that has the attribute: each
     * such place is set anew in every visit that gets it, so that this can't be told from frames.
     */
    private static final class Machine {
        private final Program program;
        // All attributes are kept with their nodes then: so are the values of a tree worked out.
        private final boolean keepsAll;
        private Grammar grammar;
        private Tree tree;
        final long[] kept = new long[MAX_NODES * MAX_ATTRIBUTES];
        final long[] variables = new long[ALL_ATTRIBUTES];
        final long[] stack = new long[MAX_STACK];
        private final int[] visited = new int[MAX_NODES];
        private final int[] underWay = new int[MAX_NODES];
        private final int[] backTo = new int[MAX_NODES];
        int place;
        int depth;
        int height;
        int done;

        Machine(Program program, boolean keepsAll) {
            this.program = program;
            this.keepsAll = keepsAll;
        }

        void restart(Grammar g, Tree on) {
            grammar = g;
            tree = on;
            Arrays.fill(kept, 0);
            Arrays.fill(variables, 0);
            Arrays.fill(visited, 0);
            depth = 0;
            height = 0;
            done = 0;
            enter(0, NONE);
        }

        int lastNode() {
            return depth == 0 ? NONE : underWay[depth - 1];
        }

        int run(int most) {
            int count = 0;
            while (count < most && depth > 0) {
                perform(place);
                count++;
            }
            done += count;
            return count;
        }

        private void enter(int n, int back) {
            if (depth < MAX_NODES) {
                visited[n]++;
                underWay[depth] = n;
                backTo[depth] = back;
                depth++;
                place = program.first(tree.production[n], visited[n]);
            }
        }

        private void leave() {
            depth--;
            int n = underWay[depth];
            place = backTo[depth];
            if (depth == 0 && visited[n] < grammar.visits[grammar.symbolAt(tree.production[n], 0)]) {
                enter(n, NONE);
            }
        }

        private void perform(int i) {
            int kind = program.kinds[i];
            int n = underWay[depth - 1];
            place = i + 1;
            switch (kind) {
                case DO_NUMBER:
                    push(program.numbers[i]);
                    break;
                case DO_LITERAL:
                    push(tree.literal[n]);
                    break;
                case DO_GET:
                case DO_GET_ALONE:
                case DO_GET_FRAME:
                case DO_GET_ABOVE:
                    push(isVariable(kind) ? variables[program.numbers[i]] : kept[keptAt(n, program.slots[i])]);
                    break;
                case DO_NEGATE:
                    push(operate(DO_SUBTRACT, 0, pop()));
                    break;
                case DO_TEST:
                    test(program.numbers[i]);
                    break;
                case DO_JUMP:
                    place = program.numbers[i];
                    break;
                case DO_SET:
                case DO_SET_ALONE:
                case DO_SET_FRAME:
                case DO_SET_ABOVE:
                    set(i, n, pop());
                    break;
                case DO_VISIT:
                    enter(tree.nodeAt(n, program.numbers[i]), place);
                    break;
                case DO_BACK:
                    leave();
                    break;
                default:
                    long right = pop();
                    push(operate(kind, pop(), right));
                    break;
            }
        }

        private boolean isVariable(int kind) {
            return !keepsAll && (kind == DO_GET_ALONE || kind == DO_SET_ALONE);
        }

        private int keptAt(int n, int slot) {
            return tree.nodeAt(n, slot / MAX_ATTRIBUTES) * MAX_ATTRIBUTES + slot % MAX_ATTRIBUTES;
        }

        private void set(int i, int n, long value) {
            if (isVariable(program.kinds[i])) {
                variables[program.numbers[i]] = value;
            } else {
                kept[keptAt(n, program.slots[i])] = value;
            }
        }

        private void test(int otherwise) {
            long value = pop();
            if (value == 0) {
                place = otherwise;
            } else if (value == ERROR) {
                push(ERROR);
                // The JUMP ahead of the other branch goes behind it.
                place = program.numbers[otherwise - 1];
            }
        }

        private static long operate(int kind, long a, long b) {
            if (a == ERROR || b == ERROR) {
                return ERROR;
            }
            switch (kind) {
                case DO_ADD:
                    return (int) (a + b);
                case DO_SUBTRACT:
                    return (int) (a - b);
                case DO_MULTIPLY:
                    return (int) (a * b);
                case DO_DIVIDE:
                    return b == 0 ? ERROR : (int) (a / b);
                case DO_BELOW:
                    return a < b ? 1 : 0;
                default:
                    return a == b ? 1 : 0;
            }
        }

        private void push(long value) {
            if (height < MAX_STACK) {
                stack[height] = value;
                height++;
            }
        }

        private long pop() {
            if (height == 0) {
                return ERROR;
            }
            height--;
            return stack[height];
        }
    }
}
