import java.util.Arrays;

/** A test for each sentence of promises 1 to 9 and 15 to 17 (texts and grammars), worked out by hand. */
public final class GrammarPromiseTests {
    public static void main(String[] args) {
        Kit.runAll(GrammarPromiseTests.class);
    }

    // Promises 1 to 4

    @Kit.Of(where = "Promise 1", sentence = "An empty text; no grammar, no tree.")
    static void aNewObject() {
        AttributeHouse x = new AttributeHouse();
        Kit.is("signs", x.put(0), 0);
        Kit.throwing("end(1)", Kit.IAE, () -> Kit.end(x, 1));
        Kit.is("end(0)", Kit.outcome(() -> Kit.end(x, 0)), "0");
        Kit.is("grammar()", x.grammar(), 0);
        Kit.stateless("a call of a grammar", new AttributeHouse[] {Kit.fresh()}, y -> y.size(0), y -> y.size(1),
                y -> y.depends(0, 0, 0) ? 1 : 0, y -> y.level(0, -1), y -> y.plan(0, 1, 0), y -> y.store(0, 0),
                y -> y.visit(0, 1), y -> y.code(0, 0), y -> y.start(0, 1), y -> y.tree());
        Kit.stateless("a call of a tree", new AttributeHouse[] {Kit.fresh()}, y -> y.count(0), y -> y.node(0, 0),
                y -> y.value(0, 0), y -> y.change(0, 0), y -> y.begin(), y -> y.step(0), y -> y.machine(0),
                y -> y.alone(0), y -> y.top(0), y -> y.held(0, 0));
        // One object has nothing of another.
        AttributeHouse other = Kit.underWay();
        Kit.stateless("a new object beside another", new AttributeHouse[] {Kit.fresh()}, y -> y.size(0), y -> y.count(0),
                y -> y.machine(0));
        Kit.is("the other one", other.count(0), 2);
    }

    @Kit.Of(where = "Promise 2",
            sentence = "Four more signs, the lowest byte first (0 is left out, and not counted): how many there are.")
    static void fourMoreSigns() {
        AttributeHouse x = new AttributeHouse();
        Kit.is("none", x.put(0), 0);
        Kit.is("one", x.put('s'), 1);
        Kit.is("one, the highest", x.put('y' << 24), 2);
        Kit.is("two, none between", x.put('m' << 8 | 'b' << 24), 4);
        Kit.is("three", x.put('o' | 'l' << 8 | ' ' << 24), 7);
        Kit.is("four", x.put('a' | ';' << 8 | 'p' << 16 | ':' << 24), 11);
        Kit.is("four", x.put('a' | '=' << 8 | '{' << 16 | '}' << 24), 15);
        Kit.is("the text is symbol a;p:a={}", x.grammar(), Kit.NONE);
        Kit.is("none again", x.put(0), 15);
    }

    @Kit.Of(where = "Promise 2", sentence = "IllegalArgumentException if a byte is none of those;")
    static void bytesThatAreNoSigns() {
        AttributeHouse x = new AttributeHouse();
        for (int bad : new int[] {1, 9, 11, 13, 31, 127, 128, 160, 255}) {
            for (int place = 0; place < 4; place++) {
                int alone = bad << 8 * place;
                int among = 0x61616161 & ~(255 << 8 * place) | alone;
                Kit.throwing("put of byte " + bad + " at " + place, Kit.IAE, () -> x.put(alone));
                Kit.throwing("put of it among signs", Kit.IAE, () -> x.put(among));
            }
        }
        for (int far : Kit.FAR) {
            Kit.throwing("put(" + far + ")", Kit.IAE, () -> x.put(far));
        }
        Kit.is("signs", x.put(0), 0);
        Kit.is("the ends of what is allowed", x.put(32 | 126 << 8 | 10 << 16 | 33 << 24), 4);
    }

    @Kit.Of(where = "Promise 2", sentence = "UnsupportedOperationException if there would be more than 2400.")
    static void moreThanAFullText() {
        for (int free = 0; free <= 4; free++) {
            AttributeHouse x = new AttributeHouse();
            Kit.append(x, "a".repeat(2400 - free));
            for (int more = 4; more > free; more--) {
                int signs = 0x61616161 >>> 8 * (4 - more);
                Kit.throwing(more + " signs where " + free + " are free", Kit.UOE, () -> x.put(signs));
                Kit.throwing("the same from the top", Kit.UOE, () -> x.put(signs << 8 * (4 - signs(signs))));
            }
            Kit.is("signs", x.put(0), 2400 - free);
            if (free > 0) {
                Kit.is("as many as are free", x.put(0x61616161 >>> 8 * (4 - free)), 2400);
            }
            Kit.throwing("one more", Kit.UOE, () -> x.put('a'));
            Kit.throwing("one more, the highest", Kit.UOE, () -> x.put('a' << 24));
            Kit.is("none more", x.put(0), 2400);
            x.end(2399);
            Kit.is("one more when there is room again", x.put('a' << 16), 2400);
        }
    }

    private static int signs(int four) {
        return (four & 255) == 0 ? 0 : 1 + signs(four >>> 8);
    }

    @Kit.Of(where = "Promise 3", sentence = "The text has its first n signs.")
    static void theFirstSigns() {
        AttributeHouse x = new AttributeHouse();
        Kit.append(x, "symbol a;p:a={}@@");
        Kit.is("with the bad signs", x.grammar(), 15);
        x.end(17);
        Kit.is("all of them", x.put(0), 17);
        x.end(15);
        Kit.is("without the bad ones", x.grammar(), Kit.NONE);
        Kit.is("signs left", x.put(0), 15);
        x.end(9);
        Kit.is("without the production", x.grammar(), 9);
        Kit.append(x, "q:a=#{}");
        Kit.is("with another one", x.grammar(), Kit.NONE);
        Kit.is("signs then", x.put(0), 16);
        x.end(0);
        Kit.is("none", x.put(0), 0);
        Kit.is("of an empty text", x.grammar(), 0);
        x.end(0);
        Kit.is("the grammar stays", x.size(1), 1);
    }

    @Kit.Of(where = "Promise 3", sentence = "The text has its first n signs.")
    static void nothingBehindTheEndIsRead() {
        // A name, a number, a word, and blanks are cut.
        AttributeHouse x = new AttributeHouse();
        Kit.append(x, "symbol abc;");
        x.end(9);
        Kit.append(x, ";p:ab={}");
        Kit.is("symbol ab", x.grammar(), Kit.NONE);
        AttributeHouse y = Kit.with(Kit.rule("#"));
        for (int digits = 6; digits >= 1; digits--) {
            y.end(0);
            Kit.append(y, "p 123456");
            y.end(2 + digits);
            Kit.is("tree() of " + digits + " digits", y.tree(), Kit.NONE);
            Kit.is("its literal", y.node(0, 2), Integer.parseInt("123456".substring(0, digits)));
        }
        y.end(2);
        Kit.is("tree() without a literal", y.tree(), 2);
        y.end(1);
        Kit.is("tree() without a blank", y.tree(), 1);
        y.end(0);
        Kit.is("tree() of nothing", y.tree(), 0);
        AttributeHouse z = new AttributeHouse();
        Kit.append(z, "symbol abcdefghi");
        z.end(15);
        Kit.is("a name that was too long", z.grammar(), 15);
        z.end(5);
        Kit.is("a word that is cut", z.grammar(), 0);
        AttributeHouse seven = Kit.with(Kit.rule("#"));
        Kit.is("a number that is too long", Kit.readTree(seven, "p 1234567"), 2);
        seven.end(8);
        Kit.is("a number that was too long", seven.tree(), Kit.NONE);
    }

    @Kit.Of(where = "Promise 3", sentence = "IllegalArgumentException if n is below 0 or above how many there are.")
    static void endsThatThereAreNot() {
        AttributeHouse x = new AttributeHouse();
        Kit.throwing("end(1) of an empty text", Kit.IAE, () -> Kit.end(x, 1));
        Kit.append(x, "abcde");
        Kit.throwing("end(-1)", Kit.IAE, () -> Kit.end(x, -1));
        Kit.throwing("end(6)", Kit.IAE, () -> Kit.end(x, 6));
        for (int far : Kit.FAR) {
            Kit.throwing("end(" + far + ")", Kit.IAE, () -> Kit.end(x, far));
        }
        Kit.is("end(5)", Kit.outcome(() -> Kit.end(x, 5)), "0");
        Kit.is("end(3)", Kit.outcome(() -> Kit.end(x, 3)), "0");
        Kit.throwing("end never goes back", Kit.IAE, () -> Kit.end(x, 4));
        Kit.is("signs", x.put(0), 3);
        AttributeHouse full = new AttributeHouse();
        Kit.append(full, "a".repeat(2400));
        Kit.throwing("end(2401) of a full text", Kit.IAE, () -> Kit.end(full, 2401));
        Kit.is("end(2400) of a full text", Kit.outcome(() -> Kit.end(full, 2400)), "0");
    }

    @Kit.Of(where = "Promise 4", sentence = "Reads the text as a grammar: NONE, and it is the grammar, without a tree;")
    static void aGrammarWithoutATree() {
        AttributeHouse x = Kit.begun(Kit.CHAIN, "top(leaf 1)");
        Kit.is("the next grammar", Kit.readGrammar(x, "symbol a;p:a={}"), Kit.NONE);
        Kit.is("its symbols", x.size(0), 1);
        Kit.is("its productions", x.size(1), 1);
        Kit.throwing("its tree", Kit.ISE, () -> x.count(0));
        Kit.throwing("its machine", Kit.ISE, () -> x.machine(0));
        Kit.throwing("begin without its tree", Kit.ISE, () -> x.begin());
        // The same text is a new grammar, too.
        AttributeHouse y = Kit.with(Kit.TWICE);
        Kit.fineTree(y, "p 1(q 2)");
        Kit.is("the same again", Kit.readGrammar(y, Kit.TWICE), Kit.NONE);
        Kit.throwing("without its tree", Kit.ISE, () -> y.value(0, 0));
        // From the least to the largest, and back.
        AttributeHouse z = Kit.with(Kit.symbols(12) + Kit.productions(30, ":aa={}"));
        Kit.is("symbols", z.size(0), 12);
        Kit.is("the least", Kit.readGrammar(z, "symbol a;p:a={}"), Kit.NONE);
        Kit.throwing("the twelfth symbol is gone", Kit.IAE, () -> z.level(11, -1));
        Kit.throwing("the thirtieth production is gone", Kit.IAE, () -> z.start(29, 1));
    }

    @Kit.Of(where = "Promise 4", sentence = "Reads the text as a grammar: NONE, and it is the grammar, without a tree;")
    static void nothingIsLeftOfGrammarsBefore() {
        String[] texts = {Kit.CHAIN, Kit.PAIR, Kit.TWICE, Kit.ERRORS, "symbol a;p:a={}",
            "symbol a up x;symbol b down d,e up u;q:b={0.u=0.e;}"
                + "p:a=b b b{0.x=1.u+2.u+3.u;1.d=1;2.d=1.u;3.d=2.u;1.e=1;2.e=2;3.e=3;}",
            "symbol r up v;symbol s down d up u,w;p:r=s{1.d=1.u;0.v=1.w;}"
                + "q:s=s{0.u=1;1.d=1.u;0.w=0.d+1.w;}e:s={0.u=1;0.w=0.d;}",
            "symbol r up a,b;symbol t up u;symbol s up u;o:r=t s{0.a=1.u;0.b=2.u;}e:t={0.u=1;}f:s=t{0.u=2;}",
            "symbol r up a,b;symbol t up u;symbol s up u;o:r=t s{0.a=1.u;0.b=2.u;}e:t={0.u=1;}f:s={0.u=2;}"};
        for (String before : texts) {
            for (String text : texts) {
                AttributeHouse x = Kit.with(before);
                Kit.is("a grammar between", Kit.readGrammar(x, "symbol z;z:z={}"), Kit.NONE);
                Kit.is("grammar()", Kit.readGrammar(x, text), Kit.NONE);
                Kit.is("the object after " + before, Kit.picture(x), Kit.picture(Kit.with(text)));
                // A part of a grammar that ends with a fault leaves nothing, either.
                AttributeHouse y = new AttributeHouse();
                Kit.readGrammar(y, before.substring(0, before.length() - 1) + "@");
                Kit.is("grammar()", Kit.readGrammar(y, text), Kit.NONE);
                Kit.is("the object after a part of " + before, Kit.picture(y), Kit.picture(Kit.with(text)));
            }
        }
    }

    @Kit.Of(where = "Promise 4", sentence = "Reads the text as a grammar: NONE, and it is the grammar, without a tree;")
    static void largeGrammarsOneAfterAnother() {
        String text = "symbol r up v;p:r={0.v=1" + "+1".repeat(800) + ";}";
        AttributeHouse x = Kit.with(text);
        for (int i = 0; i < 10; i++) {
            Kit.is("grammar() again", x.grammar(), Kit.NONE);
            Kit.codeIs(x, 1600, 7, 0, 15, 0, 20, 0);
            Kit.throwing("code behind it", Kit.IOOBE, () -> x.code(1603, 0));
        }
        Kit.fineTree(x, "p");
        Kit.is("value", x.value(0, 0), 801);
    }

    @Kit.Of(where = "Promise 4", sentence = "its fault (below 2401; of a long text it may be a number that is told for a "
            + "circular production, too);")
    static void faultsOfLongTexts() {
        Kit.fault("^");
        Kit.fault("symbol a;p:a={}" + " ".repeat(1985) + "^;");
        Kit.fault("symbol a;p:a={}" + " ".repeat(1990) + "^;");
        Kit.fault("symbol a;p:a={" + " ".repeat(2386) + "^");
        Kit.answers(" ".repeat(2400), 2400);
        Kit.answers(" ".repeat(2399) + ";", 2399);
        // The longest text that is read within 512 calls: 511 of them for its signs.
        AttributeHouse x = new AttributeHouse();
        Kit.append(x, "symbol a;p:a={" + " ".repeat(2030));
        Kit.is("grammar() of 2044 signs", x.grammar(), 2044);
    }

    @Kit.Of(where = "Promise 4", sentence = "2000 and the number of the first production (from 0) that is circular;")
    static void theFirstCircularProduction() {
        String circular = ":b=b{1.y=1.z;0.z=0.y;}";
        String head = "symbol a;symbol b down y up z;";
        Kit.answers(head + "p" + circular, 2000);
        Kit.answers(head + Kit.productions(1, ":a={}") + "p" + circular, 2001);
        Kit.answers(head + Kit.productions(29, ":a={}") + "p" + circular, 2029);
        Kit.answers(head + Kit.productions(5, ":a={}") + "p" + circular + "q" + circular, 2005);
        Kit.answers(head + Kit.productions(2, ":a={}") + "k:b={0.z=1;}p" + circular, 2002);
        Kit.answers(head + "k:b={0.z=1;}p:b=b{1.y=1;0.z=0.y;}", Kit.NONE);
    }

    @Kit.Of(where = "Promise 4", sentence = "if there is none, 3000 and the first that is crossed.")
    static void theFirstCrossedProduction() {
        String crossed = ":a=b b{0.x=1.z;1.y=2.z;1.w=0;2.y=0;2.w=1.v;}";
        String head = "symbol a up x;symbol b down y,w up z,v;symbol c down y up z;";
        Kit.answers(head + "p" + crossed, 3000);
        Kit.answers(head + Kit.productions(1, ":a={0.x=0;}") + "p" + crossed, 3001);
        Kit.answers(head + Kit.productions(29, ":a={0.x=0;}") + "p" + crossed, 3029);
        Kit.answers(head + Kit.productions(5, ":a={0.x=0;}") + "p" + crossed + "q" + crossed, 3005);
        // A circular one is told ahead of a crossed one that comes ahead of it.
        Kit.answers(head + "p" + crossed + "q" + crossed + "k:c=c{1.y=1.z;0.z=0.y;}", 2002);
    }

    @Kit.Of(where = "Promise 4", sentence = "(If it isn't ordered, all stays as it is.)")
    static void allStaysWithoutAnOrderedGrammar() {
        String[] texts = {"", "symbol a;", "symbol a up x;symbol b down y,w up z,v;p:a={0.x=1;}q:b={0.z=1;}",
            Kit.CIRCULAR, Kit.CROSSED};
        int[] due = {0, 9, 62, 2000, 3000};
        for (int i = 0; i < texts.length; i++) {
            AttributeHouse x = Kit.underWay();
            AttributeHouse y = Kit.underWay();
            y.end(0);
            Kit.append(y, texts[i]);
            Kit.is("grammar() of " + texts[i], Kit.readGrammar(x, texts[i]), due[i]);
            Kit.is("the object after it", Kit.picture(x), Kit.picture(y));
            x.step(100);
            Kit.is("what the machine comes to", x.held(0, 0), 28);
        }
    }

    // Promises 5 to 9

    @Kit.Of(where = "Promise 5", sentence = "Of the grammar: 0 how many symbols, 1 productions.")
    static void sizes() {
        AttributeHouse least = Kit.with("symbol a;p:a={}");
        Kit.is("least, symbols", least.size(0), 1);
        Kit.is("least, productions", least.size(1), 1);
        AttributeHouse most = Kit.with(Kit.symbols(12) + Kit.productions(30, ":al={}"));
        Kit.is("most, symbols", most.size(0), 12);
        Kit.is("most, productions", most.size(1), 30);
        AttributeHouse lists = Kit.with(Kit.LISTS);
        Kit.is("lists, symbols", lists.size(0), 3);
        Kit.is("lists, productions", lists.size(1), 5);
    }

    @Kit.Of(where = "Promise 5", sentence = "IllegalStateException if there is none;")
    static void sizesWithoutAGrammar() {
        Kit.stateless("size", Kit.withoutAGrammar(), x -> x.size(0), x -> x.size(1), x -> x.size(2));
    }

    @Kit.Of(where = "Promise 5", sentence = "IllegalArgumentException for another what.")
    static void otherSizes() {
        AttributeHouse x = Kit.with(Kit.LISTS);
        Kit.throwing("size(-1)", Kit.IAE, () -> x.size(-1));
        Kit.throwing("size(2)", Kit.IAE, () -> x.size(2));
        for (int far : Kit.FAR) {
            Kit.throwing("size(" + far + ")", Kit.IAE, () -> x.size(far));
        }
    }

    @Kit.Of(where = "Promise 6", sentence = "Whether attribute a depends on b by the IDS of a symbol.")
    static void dependences() {
        AttributeHouse x = Kit.with(Kit.TWICE);
        String[] due = {"0000", "1010", "1000", "1110"};
        for (int a = 0; a < 4; a++) {
            for (int b = 0; b < 4; b++) {
                Kit.is("depends(1, " + a + ", " + b + ")", x.depends(1, a, b), due[a].charAt(b) == '1');
            }
        }
        Kit.is("depends(0, 0, 0)", x.depends(0, 0, 0), false);
        // The eighth on the first one, and on itself.
        AttributeHouse y = Kit.with("symbol r;symbol s down a up b,c,d,e,f,g,h;p:r={}"
                + "q:s={0.b=1;0.c=1;0.d=1;0.e=1;0.f=1;0.g=1;0.h=0.a;}");
        Kit.is("h on a", y.depends(1, 7, 0), true);
        Kit.is("a on h", y.depends(1, 0, 7), false);
        Kit.is("h on itself", y.depends(1, 7, 7), false);
    }

    @Kit.Of(where = "Promise 6", sentence = "IllegalStateException if there is no grammar;")
    static void dependencesWithoutAGrammar() {
        Kit.stateless("depends", Kit.withoutAGrammar(), x -> x.depends(0, 0, 0) ? 1 : 0, x -> x.depends(-1, 0, 0) ? 1 : 0);
    }

    @Kit.Of(where = "Promise 6", sentence = "IllegalArgumentException if there is no such symbol or attribute.")
    static void dependencesOfNoAttribute() {
        AttributeHouse x = Kit.with(Kit.TWICE);
        int[][] wrong = {{-1, 0, 0}, {2, 0, 0}, {1, -1, 0}, {1, 4, 0}, {1, 0, -1}, {1, 0, 4}, {0, 1, 0}, {0, 0, 1}};
        for (int[] w : wrong) {
            Kit.throwing("depends" + Arrays.toString(w), Kit.IAE, () -> x.depends(w[0], w[1], w[2]) ? 1 : 0);
        }
        for (int far : Kit.FAR) {
            Kit.throwing("depends(" + far + ", 0, 0)", Kit.IAE, () -> x.depends(far, 0, 0) ? 1 : 0);
            Kit.throwing("depends(1, " + far + ", 0)", Kit.IAE, () -> x.depends(1, far, 0) ? 1 : 0);
            Kit.throwing("depends(1, 0, " + far + ")", Kit.IAE, () -> x.depends(1, 0, far) ? 1 : 0);
        }
        AttributeHouse none = Kit.with("symbol a;symbol b up u;p:a={}");
        Kit.throwing("depends of a symbol without attributes", Kit.IAE, () -> none.depends(0, 0, 0) ? 1 : 0);
    }

    @Kit.Of(where = "Promise 7", sentence = "The level of an attribute; how many visits the symbol has if a is -1.")
    static void levels() {
        AttributeHouse x = Kit.with(Kit.TWICE);
        int[] due = {2, 4, 2, 3, 1};
        for (int a = -1; a < 4; a++) {
            Kit.is("level(1, " + a + ")", x.level(1, a), due[a + 1]);
        }
        Kit.is("level(0, -1)", x.level(0, -1), 1);
        Kit.is("level(0, 0)", x.level(0, 0), 1);
        Kit.is("visits without attributes", Kit.with("symbol a;p:a={}").level(0, -1), 1);
    }

    @Kit.Of(where = "Promise 7", sentence = "Exceptions as for depends().")
    static void levelsThatThereAreNot() {
        Kit.stateless("level", Kit.withoutAGrammar(), x -> x.level(0, -1), x -> x.level(0, 0), x -> x.level(-1, 0));
        AttributeHouse x = Kit.with(Kit.TWICE);
        int[][] wrong = {{-1, 0}, {-1, -1}, {2, 0}, {2, -1}, {1, -2}, {1, 4}, {0, 1}};
        for (int[] w : wrong) {
            Kit.throwing("level" + Arrays.toString(w), Kit.IAE, () -> x.level(w[0], w[1]));
        }
        for (int far : Kit.FAR) {
            Kit.throwing("level(" + far + ", -1)", Kit.IAE, () -> x.level(far, -1));
            Kit.throwing("level(1, " + far + ")", Kit.IAE, () -> x.level(1, far));
        }
        AttributeHouse none = Kit.with("symbol a;symbol b up u;p:a={}");
        Kit.throwing("level(0, 0) without attributes", Kit.IAE, () -> none.level(0, 0));
    }

    @Kit.Of(where = "Promise 8", sentence = "Of a production's plan of a visit (from 1 on), entry i: the occurrence that is "
            + "visited, or 10 and ten times the occurrence and the attribute that is evaluated; NONE behind its end.")
    static void plans() {
        Kit.planIs(Kit.with(Kit.PAIR), 3, 1, 20, 30, 1, 2, 11);
        // 47 is the eighth of the third occurrence.
        AttributeHouse x = Kit.with("symbol r up " + Kit.EIGHT + ";symbol t down " + Kit.EIGHT + ";p:r=r r t{"
                + Kit.eightRules(0, "1") + Kit.eightRules(3, "1") + "}q:r={" + Kit.eightRules(0, "1") + "}");
        Kit.planIs(x, 0, 1, 10, 11, 12, 13, 14, 15, 16, 17, 40, 41, 42, 43, 44, 45, 46, 47, 1, 2, 3);
        Kit.planIs(x, 1, 1, 10, 11, 12, 13, 14, 15, 16, 17);
        for (int i : new int[] {8, 9, 19, 1000, Integer.MAX_VALUE - 1, Integer.MAX_VALUE}) {
            Kit.is("plan(1, 1, " + i + ")", x.plan(1, 1, i), Kit.NONE);
        }
        // Of an empty plan, and of the first of two, behind which the second is none of it.
        AttributeHouse y = Kit.with("symbol a;p:a={}");
        Kit.is("of an empty one", y.plan(0, 1, 0), Kit.NONE);
        AttributeHouse z = Kit.with(Kit.TWICE);
        Kit.planIs(z, 1, 1, 12);
        Kit.planIs(z, 1, 2, 13);
    }

    @Kit.Of(where = "Promise 8", sentence = "IllegalStateException if there is no grammar;")
    static void plansWithoutAGrammar() {
        Kit.stateless("plan", Kit.withoutAGrammar(), x -> x.plan(0, 1, 0), x -> x.plan(0, 1, -1), x -> x.plan(-1, 1, 0));
    }

    @Kit.Of(where = "Promise 8", sentence = "IllegalArgumentException if there is no such production, or visit of its head, "
            + "or i is below 0.")
    static void plansThatThereAreNot() {
        AttributeHouse x = Kit.with(Kit.TWICE);
        int[][] wrong = {{-1, 1, 0}, {2, 1, 0}, {0, 0, 0}, {0, 2, 0}, {0, -1, 0}, {1, 0, 0}, {1, 3, 0}, {0, 1, -1}, {1, 2, -1}};
        for (int[] w : wrong) {
            Kit.throwing("plan" + Arrays.toString(w), Kit.IAE, () -> x.plan(w[0], w[1], w[2]));
        }
        for (int far : Kit.FAR) {
            Kit.throwing("plan(" + far + ", 1, 0)", Kit.IAE, () -> x.plan(far, 1, 0));
            Kit.throwing("plan(1, " + far + ", 0)", Kit.IAE, () -> x.plan(1, far, 0));
        }
        Kit.throwing("plan(1, 1, lowest)", Kit.IAE, () -> x.plan(1, 1, Integer.MIN_VALUE));
    }

    @Kit.Of(where = "Promise 9", sentence = "The store of an attribute.")
    static void stores() {
        Kit.storesAre(Kit.TWICE, 0, 2);
        Kit.storesAre(Kit.TWICE, 1, 2, 0, 0, 0);
        Kit.storesAre(Kit.PAIR, 1, 1, 1);
    }

    @Kit.Of(where = "Promise 9", sentence = "Exceptions as for depends().")
    static void storesThatThereAreNot() {
        Kit.stateless("store", Kit.withoutAGrammar(), x -> x.store(0, 0), x -> x.store(-1, 0));
        AttributeHouse x = Kit.with(Kit.TWICE);
        int[][] wrong = {{-1, 0}, {2, 0}, {1, -1}, {1, 4}, {0, 1}, {0, -1}};
        for (int[] w : wrong) {
            Kit.throwing("store" + Arrays.toString(w), Kit.IAE, () -> x.store(w[0], w[1]));
        }
        for (int far : Kit.FAR) {
            Kit.throwing("store(" + far + ", 0)", Kit.IAE, () -> x.store(far, 0));
            Kit.throwing("store(1, " + far + ")", Kit.IAE, () -> x.store(1, far));
        }
    }

    // Promises 15 to 17

    @Kit.Of(where = "Promise 15", sentence = "Of a symbol's visit (from 1 on): the attributes down that it takes (a bit each), "
            + "and 256 times those up that it gives.")
    static void visits() {
        AttributeHouse x = Kit.with(Kit.TWICE);
        Kit.is("visit(0, 1)", x.visit(0, 1), 256);
        Kit.is("visit(1, 1)", x.visit(1, 1), 1 + 256 * 4);
        Kit.is("visit(1, 2)", x.visit(1, 2), 2 + 256 * 8);
        AttributeHouse y = Kit.with("symbol r up " + Kit.EIGHT + ";symbol s down " + Kit.EIGHT + ";symbol t;"
                + "p:r={" + Kit.eightRules(0, "1") + "}");
        Kit.is("eight up", y.visit(0, 1), 65280);
        Kit.is("eight down", y.visit(1, 1), 255);
        Kit.is("none", y.visit(2, 1), 0);
    }

    @Kit.Of(where = "Promise 15", sentence = "Exceptions as for depends() (a visit that it hasn't being one).")
    static void visitsThatThereAreNot() {
        Kit.stateless("visit", Kit.withoutAGrammar(), x -> x.visit(0, 1), x -> x.visit(0, 0), x -> x.visit(-1, 1));
        AttributeHouse x = Kit.with(Kit.TWICE);
        int[][] wrong = {{-1, 1}, {2, 1}, {0, 0}, {0, -1}, {0, 2}, {1, 0}, {1, 3}};
        for (int[] w : wrong) {
            Kit.throwing("visit" + Arrays.toString(w), Kit.IAE, () -> x.visit(w[0], w[1]));
        }
        for (int far : Kit.FAR) {
            Kit.throwing("visit(" + far + ", 1)", Kit.IAE, () -> x.visit(far, 1));
            Kit.throwing("visit(1, " + far + ")", Kit.IAE, () -> x.visit(1, far));
        }
        AttributeHouse none = Kit.with("symbol a;p:a={}");
        Kit.throwing("the second of a symbol without attributes", Kit.IAE, () -> none.visit(0, 2));
    }

    @Kit.Of(where = "Promise 16", sentence = "Instruction i of the program: its kind (what = 0), its number (1).")
    static void instructions() {
        AttributeHouse x = Kit.with(Kit.CHAIN);
        Kit.codeIs(x, 0, 0, 5, 16, 0, 19, 1, 3, 1, 0, 1, 7, 0, 15, 0, 20, 0);
        Kit.codeIs(x, 16, 3, 0, 1, 0, 8, 0, 16, 1, 20, 0);
        Kit.codeIs(Kit.with("symbol a;p:a={}"), 0, 20, 0);
        // The program is the new grammar's: it is shorter then.
        Kit.is("another grammar", Kit.readGrammar(x, "symbol a;p:a={}"), Kit.NONE);
        Kit.codeIs(x, 0, 20, 0);
        Kit.throwing("code(1, 0)", Kit.IOOBE, () -> x.code(1, 0));
    }

    @Kit.Of(where = "Promise 16", sentence = "IllegalStateException if there is no grammar;")
    static void instructionsWithoutAGrammar() {
        Kit.stateless("code", Kit.withoutAGrammar(), x -> x.code(0, 0), x -> x.code(-1, 0), x -> x.code(0, 2));
    }

    @Kit.Of(where = "Promise 16", sentence = "IndexOutOfBoundsException if there is no such instruction;")
    static void instructionsThatThereAreNot() {
        AttributeHouse x = Kit.with(Kit.CHAIN);
        Kit.throwing("code(-1, 0)", Kit.IOOBE, () -> x.code(-1, 0));
        Kit.is("the last one", x.code(20, 0), 20);
        Kit.throwing("code(21, 0)", Kit.IOOBE, () -> x.code(21, 0));
        Kit.throwing("code(21, 1)", Kit.IOOBE, () -> x.code(21, 1));
        for (int far : Kit.FAR) {
            Kit.throwing("code(" + far + ", 0)", Kit.IOOBE, () -> x.code(far, 0));
        }
        // As long as a text can make it: 1188 numbers, 1187 sums, SET and BACK.
        AttributeHouse full = Kit.with("symbol r up v;p:r={0.v=1" + "+1".repeat(1187) + ";}");
        Kit.codeIs(full, 2374, 7, 0, 15, 0, 20, 0);
        Kit.throwing("code(2377, 0)", Kit.IOOBE, () -> full.code(2377, 0));
    }

    @Kit.Of(where = "Promise 16", sentence = "IllegalArgumentException for another what.")
    static void otherPartsOfInstructions() {
        AttributeHouse x = Kit.with(Kit.CHAIN);
        Kit.throwing("code(0, -1)", Kit.IAE, () -> x.code(0, -1));
        Kit.throwing("code(20, 2)", Kit.IAE, () -> x.code(20, 2));
        for (int far : Kit.FAR) {
            Kit.throwing("code(0, " + far + ")", Kit.IAE, () -> x.code(0, far));
        }
    }

    @Kit.Of(where = "Promise 17",
            sentence = "The number of the instruction with which a production's visit (from 1 on) begins.")
    static void starts() {
        AttributeHouse x = Kit.with(Kit.TWICE);
        Kit.is("start(0, 1)", x.start(0, 1), 0);
        Kit.is("start(1, 1)", x.start(1, 1), 9);
        Kit.is("start(1, 2)", x.start(1, 2), 14);
        AttributeHouse empty = Kit.with("symbol a;" + Kit.productions(30, ":a={}"));
        for (int p = 0; p < 30; p++) {
            Kit.is("start(" + p + ", 1)", empty.start(p, 1), p);
        }
        // The last visit of all of five, of which its plan is empty.
        AttributeHouse five = Kit.with("symbol r;symbol s down b,d,f,h up a,c,e,g;"
                + "p:r=s{1.b=1.a;1.d=1.c;1.f=1.e;1.h=1.g;}q:s={0.a=1;0.c=0.b;0.e=0.d;0.g=0.f;}");
        Kit.is("start(0, 1)", five.start(0, 1), 0);
        for (int v = 1; v <= 5; v++) {
            Kit.is("start(1, " + v + ")", five.start(1, v), 14 + 3 * (v - 1));
        }
    }

    @Kit.Of(where = "Promise 17", sentence = "Exceptions as for plan().")
    static void startsThatThereAreNot() {
        Kit.stateless("start", Kit.withoutAGrammar(), x -> x.start(0, 1), x -> x.start(-1, 1), x -> x.start(0, 0));
        AttributeHouse x = Kit.with(Kit.TWICE);
        int[][] wrong = {{-1, 1}, {2, 1}, {0, 0}, {0, -1}, {0, 2}, {1, 0}, {1, 3}};
        for (int[] w : wrong) {
            Kit.throwing("start" + Arrays.toString(w), Kit.IAE, () -> x.start(w[0], w[1]));
        }
        for (int far : Kit.FAR) {
            Kit.throwing("start(" + far + ", 1)", Kit.IAE, () -> x.start(far, 1));
            Kit.throwing("start(1, " + far + ")", Kit.IAE, () -> x.start(1, far));
        }
    }
}
