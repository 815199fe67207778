/** A test for each sentence of the document's Terms 2 (ORDER), with answers worked out by hand. */
public final class OrderTermsTests {
    /** The longest chain of levels: h on g on f .. on a, down and up by turns, the last one down. */
    private static final String LONGEST = "symbol r;symbol s down b,d,f,h up a,c,e,g;"
            + "p:r=s{1.b=1.a;1.d=1.c;1.f=1.e;1.h=1.g;}q:s={0.a=1;0.c=0.b;0.e=0.d;0.g=0.f;}";
    /** A root's production that crosses b's two pairs: 1.y on 2.z, and 2.w on 1.v. */
    private static final String CROSSES = "a=b b{0.x=1.z;1.y=2.z;1.w=0;2.y=0;2.w=1.v;}";
    private static final String TWO_PAIRS = "symbol a up x;symbol b down y,w up z,v;";

    public static void main(String[] args) {
        Kit.runAll(OrderTermsTests.class);
    }

    private static void dependsIs(AttributeHouse x, int symbol, String... due) {
        for (int a = 0; a < due.length; a++) {
            for (int b = 0; b < due.length; b++) {
                Kit.is("depends(" + symbol + ", " + a + ", " + b + ")", x.depends(symbol, a, b),
                        due[a].charAt(b) == '1');
            }
        }
    }

    private static void levelsAre(AttributeHouse x, int symbol, int visits, int... due) {
        Kit.is("visits of symbol " + symbol, x.level(symbol, -1), visits);
        for (int a = 0; a < due.length; a++) {
            Kit.is("level(" + symbol + ", " + a + ")", x.level(symbol, a), due[a]);
        }
    }

    // Dependences

    @Kit.Of(where = "Terms 2", sentence = "In a production x DEPENDS directly on y, both attributes of occurrences, "
            + "if the rule of x names y.")
    static void whatARuleNamesAnywhere() {
        AttributeHouse x = Kit.with("symbol r;symbol s down d,e,f up u,w,z;p:r={}"
                + "q:s=#{0.u=if 0 then 0.d else 1;0.w=if 0.e then 1 else -(2*(3-0.f));0.z=#;}");
        dependsIs(x, 1, "000000", "000000", "000000", "100000", "011000", "000000");
    }

    @Kit.Of(where = "Terms 2", sentence = "IDP has all direct dependences, all that follow from two (x on y, y on z), "
            + "and for each occurrence of a symbol the IDS of it; IDS has a on b if the IDP of some production has "
            + "a of an occurrence of the symbol on b of the same occurrence.")
    static void whatIsInducedGoesUpAndDown() {
        // a 0, b 1, x 2, y 3: x on a; b on x (by p), so on a; y on a and b, so on x.
        dependsIs(Kit.with(Kit.TWICE), 1, "0000", "1010", "1000", "1110");
        // d 0, u 1, w 2, with a production between.
        dependsIs(Kit.with("symbol r up v;symbol s down d up u,w;p:r=s{1.d=1.w;0.v=1.u;}"
                + "q:s=s{1.d=0.d;0.u=1.u;0.w=1.w;}e:s={0.u=0.d;0.w=3;}"), 1, "001", "101", "000");
        // By the third occurrence, too.
        dependsIs(Kit.with("symbol r;symbol s down d up u;p:r=s s s{1.d=1;2.d=1;3.d=3.u;}"), 1, "01", "00");
        // Without rules that name anything nothing depends.
        dependsIs(Kit.with("symbol r;symbol s down d up u;p:r=s{1.d=1;}q:s={0.u=1;}"), 1, "00", "00");
    }

    /** Eleven symbols below the root, one in another: d comes from w at the top, w and u from the bottom. */
    private static String tower(boolean downwards) {
        StringBuilder text = new StringBuilder("symbol a up v;");
        for (char s = 'b'; s <= 'l'; s++) {
            text.append("symbol ").append(s).append(" down d up u,w;");
        }
        String top = "top:a=b{1.d=1.w;0.v=1.u;}";
        String bottom = "end:l={0.u=0.d;0.w=1;}";
        text.append(downwards ? top : bottom);
        for (int i = 0; i < 10; i++) {
            char s = (char) (downwards ? 'b' + i : 'k' - i);
            text.append(s).append(':').append(s).append('=').append((char) (s + 1))
                    .append("{1.d=0.d;0.u=1.u;0.w=1.w;}");
        }
        return text.append(downwards ? bottom : top).toString();
    }

    @Kit.Of(where = "Terms 2", sentence = "INDUCED are the least relations IDS of symbols and IDP of productions")
    static void whatIsInducedGoesThroughAllSymbols() {
        for (boolean downwards : new boolean[] {true, false}) {
            AttributeHouse x = Kit.with(tower(downwards));
            for (int s = 1; s < 12; s++) {
                dependsIs(x, s, "001", "101", "000");
                levelsAre(x, s, 2, 2, 1, 3);
            }
        }
    }

    @Kit.Of(where = "Terms 2", sentence = "A production is CIRCULAR if some attribute of its depends on itself by IDP.")
    static void circularProductions() {
        // q is circular by what p induces: z depends on y by its own rule, y on z by p.
        Kit.answers("symbol a up x;symbol b down y up z;q:b={0.z=0.y;}p:a=b{0.x=1.z;1.y=1.z;}", 2000);
        Kit.answers("symbol a up x;symbol b down y up z;o:a={0.x=1;}q:b={0.z=0.y;}p:a=b{0.x=1.z;1.y=1.z;}", 2001);
        // By two occurrences, and by a production between.
        Kit.answers("symbol a;symbol b down y up z;q:b={0.z=0.y;}p:a=b b{1.y=2.z;2.y=1.z;}", 2000);
        Kit.answers("symbol a up x;symbol b down y up z;symbol c down y up z;"
                + "e:a={0.x=1;}p:a=b{0.x=1.z;1.y=1.z;}q:b=c{0.z=1.z;1.y=0.y;}r:c={0.z=0.y;}", 2001);
        // By one production alone, whose head is below it, too.
        Kit.answers("symbol a;symbol b down y up z;o:a={}p:b=b{1.y=1.z;0.z=0.y;}", 2001);
        // Not without a production that leads from z back to y.
        Kit.fine("symbol a up x;symbol b down y up z;p:a=b{0.x=1.z;1.y=1.z;}");
        Kit.fine("symbol a up x;symbol b down y up z;p:a=b{0.x=1.z;1.y=1.z;}q:b={0.z=1;}");
    }

    // Levels

    @Kit.Of(where = "Terms 2", sentence = "going through levels 1, 2, 3, .. until all have one: into an odd level come "
            + "those up, into an even one those down, that have none yet and of which only such depend (IDS) as have "
            + "a level, or are in this one, too (as many as can be so).")
    static void levelsFromOneToNine() {
        levelsAre(Kit.with(Kit.TWICE), 1, 2, 4, 2, 3, 1);
        levelsAre(Kit.with(LONGEST), 1, 5, 8, 6, 4, 2, 9, 7, 5, 3);
        AttributeHouse x = Kit.with("symbol a up " + Kit.EIGHT + ";symbol b down " + Kit.EIGHT + ";"
                + "p:a={" + Kit.eightRules(0, "1") + "}");
        levelsAre(x, 0, 1, 1, 1, 1, 1, 1, 1, 1, 1);
        levelsAre(x, 1, 1, 2, 2, 2, 2, 2, 2, 2, 2);
        // Those on which nothing depends come first, as low as they can.
        levelsAre(Kit.with("symbol r;symbol s down d,e up u,w;p:r=s{1.d=1.u;1.e=1;}q:s={0.u=1;0.w=1;}"),
                1, 2, 2, 2, 3, 1);
        // Nothing up depends on d: the levels begin with 2.
        levelsAre(Kit.with("symbol r;symbol s down d up u;p:r=s{1.d=1.u;}"), 1, 2, 2, 3);
    }

    @Kit.Of(where = "Terms 2", sentence = "The symbol has as many VISITS as pairs of levels, (2, 1), (4, 3), .. up to the "
            + "highest one, one if it has no attributes; its attributes of the highest pair are those of visit 1, "
            + "and so on.")
    static void visitsFromTheHighestPairOn() {
        Kit.is("without attributes", Kit.with("symbol a;p:a={}").level(0, -1), 1);
        Kit.is("with level 1 alone", Kit.with("symbol a up x;p:a={0.x=1;}").level(0, -1), 1);
        Kit.is("with level 2 alone", Kit.with("symbol a;symbol b down y;p:a={}").level(1, -1), 1);
        Kit.is("with 2 and 1", Kit.with(Kit.CHAIN).level(1, -1), 1);
        Kit.is("with 3 and 2", Kit.with("symbol r;symbol s down d up u;p:r=s{1.d=1.u;}").level(1, -1), 2);
        Kit.is("with 4 .. 1", Kit.with(Kit.TWICE).level(1, -1), 2);
        AttributeHouse x = Kit.with(LONGEST);
        Kit.is("with 9 .. 2", x.level(1, -1), 5);
        int[] due = {256 * 16, 1 + 256 * 32, 2 + 256 * 64, 4 + 256 * 128, 8};
        for (int v = 1; v <= 5; v++) {
            Kit.is("visit(1, " + v + ")", x.visit(1, v), due[v - 1]);
        }
    }

    @Kit.Of(where = "Terms 2", sentence = "A production is CROSSED if an attribute depends on itself when, to the direct "
            + "dependences (and what follows), is added: for each occurrence, each attribute of level k on each of "
            + "level k + 1.")
    static void crossedProductions() {
        String pairs = "q:b={0.z=0.y;0.v=0.w;}";
        Kit.answers(TWO_PAIRS + "p:" + CROSSES, 3000);
        Kit.answers(TWO_PAIRS + pairs + "p:" + CROSSES, 3001);
        // Each of the two alone does not cross.
        Kit.fine(TWO_PAIRS + pairs + "p:a=b b{0.x=1.z;1.y=2.z;1.w=0;2.y=0;2.w=0;}");
        Kit.fine(TWO_PAIRS + pairs + "p:a=b b{0.x=1.z;1.y=0;1.w=0;2.y=0;2.w=1.v;}");
        Kit.fine(TWO_PAIRS + pairs + "p:a=b b{0.x=1.z;1.y=0;1.w=0;2.y=1.z;2.w=1.v;}");
        // By the head's levels, too: 0.v on 1.u, that on 1.d by its level, 1.d on 0.w, that on 0.v by its level.
        Kit.answers("symbol a;symbol b down y,w,x up z,v;symbol c down d,e up u;p:a=b{1.y=1;1.w=1;1.x=1.v;}"
                + "q:b=c{0.v=1.u;0.z=0.w;1.d=0.w;1.e=0.y;}r:c={0.u=0.e;}", 3001);
        // The same with w as the head's first attribute.
        Kit.answers("symbol a;symbol b down w,y,x up z,v;symbol c down d,e up u;p:a=b{1.y=1;1.w=1;1.x=1.v;}"
                + "q:b=c{0.v=1.u;0.z=0.w;1.d=0.w;1.e=0.y;}r:c={0.u=0.e;}", 3001);
    }

    @Kit.Of(where = "Terms 2", sentence = "The grammar is ORDERED if no production is circular or crossed.")
    static void anOrderedGrammarAlone() {
        for (String text : new String[] {Kit.CHAIN, Kit.PAIR, Kit.TWICE, Kit.LISTS, Kit.ERRORS, LONGEST}) {
            Kit.fine(text);
        }
        AttributeHouse x = new AttributeHouse();
        Kit.is("circular", Kit.readGrammar(x, "symbol a;symbol b down y up z;p:b=b{1.y=1.z;0.z=0.y;}"), 2000);
        Kit.throwing("no grammar then", Kit.ISE, () -> x.size(0));
        Kit.is("crossed", Kit.readGrammar(x, TWO_PAIRS + "p:" + CROSSES), 3000);
        Kit.throwing("no grammar then, either", Kit.ISE, () -> x.size(0));
    }

    // Plans

    @Kit.Of(where = "Terms 2", sentence = "A production has a plan for each visit of its head.")
    static void asManyPlansAsVisits() {
        AttributeHouse x = Kit.with(LONGEST);
        Kit.planIs(x, 0, 1, 1, 20, 1, 21, 1, 22, 1, 23, 1);
        Kit.throwing("plan(0, 2, 0)", Kit.IAE, () -> x.plan(0, 2, 0));
        Kit.planIs(x, 1, 1, 14);
        Kit.planIs(x, 1, 2, 15);
        Kit.planIs(x, 1, 3, 16);
        Kit.planIs(x, 1, 4, 17);
        Kit.planIs(x, 1, 5);
        Kit.throwing("plan(1, 6, 0)", Kit.IAE, () -> x.plan(1, 6, 0));
    }

    @Kit.Of(where = "Terms 2", sentence = "Going through the visits from 1 on: the head's attributes down of the visit are "
            + "THERE; then ROUNDS, until one does nothing:")
    static void roundsUntilOneDoesNothing() {
        AttributeHouse x = Kit.with(Kit.LISTS);
        Kit.planIs(x, 0, 1, 20, 1, 2, 30, 1, 2, 10);
        Kit.planIs(x, 1, 1, 1, 12);
        Kit.planIs(x, 1, 2, 20, 30, 1, 2, 11);
        Kit.planIs(x, 2, 1, 12);
        Kit.planIs(x, 2, 2, 20, 1, 11);
        AttributeHouse none = Kit.with("symbol a;p:a={}q:a=a a a{}");
        Kit.planIs(none, 0, 1);
        Kit.planIs(none, 1, 1, 1, 2, 3);
    }

    @Kit.Of(where = "Terms 2", sentence = "first all attributes that it defines, by occurrences, those of one by their "
            + "numbers, each EVALUATED if it wasn't yet and all are there that its rule names (it is there then);")
    static void evaluatedByOccurrencesAndOnce() {
        String head = "symbol r up v,w;symbol t down d,e up u;";
        Kit.planIs(Kit.with(head + "p:r=t t{2.e=1;2.d=1;1.e=1;1.d=1;0.w=1;0.v=1;}"), 0, 1,
                10, 11, 20, 21, 30, 31, 1, 2);
        // What waits for a visit comes in the next round, again by occurrences.
        Kit.planIs(Kit.with(head + "p:r=t t{2.e=1;2.d=1.u;1.e=1;1.d=1;0.w=1.u;0.v=2.u;}"), 0, 1,
                20, 21, 31, 1, 11, 30, 2, 10);
        // The last attribute of the last occurrence, and one of a later visit that is there already.
        Kit.planIs(Kit.with("symbol r;symbol t down " + Kit.EIGHT + ";p:r=r r t{" + Kit.eightRules(3, "1") + "}"),
                0, 1, 40, 41, 42, 43, 44, 45, 46, 47, 1, 2, 3);
        AttributeHouse early = Kit.with("symbol r up v;symbol s down d up u,w;p:r=s{1.d=1.u;0.v=1.w;}"
                + "q:s={0.u=1;0.w=0.d;}k:s={0.u=1;0.w=2;}");
        Kit.planIs(early, 1, 1, 11);
        Kit.planIs(early, 1, 2, 12);
        Kit.planIs(early, 2, 1, 11, 12);
        Kit.planIs(early, 2, 2);
    }

    @Kit.Of(where = "Terms 2", sentence = "then occurrences 1, 2, 3, each VISITED for the next time, if it has such a visit "
            + "and its attributes down of that visit are there (those up of it are there then).")
    static void visitedOnceARound() {
        // Both visits of both are ready at once: still one of each in a round, and none too many.
        AttributeHouse x = Kit.with(Kit.TWICE + "w:r=t t{1.a=1;1.b=2;2.a=3;2.b=4;0.v=1.y+2.y;}");
        Kit.planIs(x, 2, 1, 20, 21, 30, 31, 1, 2, 1, 2, 10);
        // The second waits for the first, and the other way round.
        String head = "symbol r up v;symbol t down d up u;";
        Kit.planIs(Kit.with(head + "p:r=t t{1.d=1;2.d=1.u;0.v=2.u;}"), 0, 1, 20, 1, 30, 2, 10);
        Kit.planIs(Kit.with(head + "p:r=t t{2.d=1;1.d=2.u;0.v=1.u;}"), 0, 1, 30, 2, 20, 1, 10);
        // A visit makes the ups of it there for those behind it in the next round alone.
        Kit.planIs(Kit.with(head + "p:r=t t t{1.d=1;2.d=1.u;3.d=1;0.v=1;}"), 0, 1, 10, 20, 40, 1, 3, 30, 2);
    }

    @Kit.Of(where = "Terms 2", sentence = "What was done in them, in order, is the plan of the visit.")
    static void aPlanMayBeEmpty() {
        AttributeHouse x = Kit.with("symbol a;symbol b down d;p:a=b{1.d=1;}q:b={}");
        Kit.planIs(x, 0, 1, 20, 1);
        Kit.planIs(x, 1, 1);
    }

    /** Nineteen productions that visit three symbols five times each, and eleven of that symbol, like LONGEST's. */
    private static String manyVisits() {
        String three = ":r=s s s{1.b=1;1.d=1;1.f=1;1.h=1;2.b=1;2.d=1;2.f=1;2.h=1;3.b=1;3.d=1;3.f=1;3.h=1;}";
        StringBuilder text = new StringBuilder("symbol r;symbol s down b,d,f,h up a,c,e,g;");
        text.append(Kit.productions(18, three)).append("x")
                .append(three.replace("1.b=1;1.d=1;1.f=1;1.h=1;", "1.b=1.a;1.d=1.c;1.f=1.e;1.h=1.g;"));
        for (char p = 'a'; p < 'k'; p++) {
            text.append(p).append(":s={0.a=1;0.c=1;0.e=1;0.g=1;}");
        }
        return text.append("y:s={0.a=1;0.c=0.b;0.e=0.d;0.g=0.f;}").toString();
    }

    private static void entriesAre(String text, int production, int[] at, int[] due) {
        AttributeHouse x = Kit.with(text);
        for (int i = 0; i < at.length; i++) {
            Kit.is("plan(" + production + ", 1, " + at[i] + ")", x.plan(production, 1, at[i]), due[i]);
        }
    }

    @Kit.Of(where = "Terms 2", sentence = "A production has a plan for each visit of its head.")
    static void asManyVisitsAsThereCanBe() {
        String text = manyVisits();
        int[] at = {0, 3, 4, 8, 11, 12, 15, 26, 27};
        entriesAre(text, 0, at, new int[] {20, 23, 30, 40, 43, 1, 1, 3, Kit.NONE});
        entriesAre(text, 17, at, new int[] {20, 23, 30, 40, 43, 1, 1, 3, Kit.NONE});
        entriesAre(text, 18, at, new int[] {30, 33, 40, 1, 20, 1, 21, 3, Kit.NONE});
        entriesAre(text, 19, new int[] {0, 3, 4}, new int[] {14, 17, Kit.NONE});
        AttributeHouse x = Kit.with(text);
        for (int v = 1; v < 5; v++) {
            Kit.planIs(x, 29, v, 13 + v);
        }
        Kit.planIs(x, 29, 5);
        Kit.is("the last instruction", x.code(x.start(29, 5), 0), 20);
        AttributeHouse again = Kit.with(text);
        for (int i = 0; i < 5; i++) {
            Kit.is("grammar() again", again.grammar(), Kit.NONE);
            Kit.is("the last plan but one", again.plan(29, 4, 0), 17);
        }
        // The last of twelve symbols has as many visits as the first of them can have.
        AttributeHouse last = Kit.with(Kit.symbols(11) + LONGEST.replace("symbol r;", "").replace("r=s", "aa=s"));
        levelsAre(last, 11, 5, 8, 6, 4, 2, 9, 7, 5, 3);
        Kit.planIs(last, 0, 1, 1, 20, 1, 21, 1, 22, 1, 23, 1);
    }

    @Kit.Of(where = "Terms 2", sentence = "A production has a plan for each visit of its head.")
    static void asManyProductionsAsThereCanBe() {
        StringBuilder text = new StringBuilder("symbol r up v;symbol s down d up u;");
        text.append(Kit.productions(15, ":r=s s s{0.v=3.u;1.d=1;2.d=1.u;3.d=2.u;}"));
        for (int p = 15; p < 30; p++) {
            text.append(Kit.name(p)).append(":s=s s s{0.u=0.d+3.u;1.d=0.d;2.d=1.u;3.d=2.u;}");
        }
        for (int p = 0; p < 15; p++) {
            AttributeHouse x = Kit.with(text.toString());
            dependsIs(x, 1, "00", "10");
            levelsAre(x, 1, 1, 2, 1);
            Kit.planIs(x, p, 1, 20, 1, 30, 2, 40, 3, 10);
            Kit.planIs(x, 15 + p, 1, 20, 1, 30, 2, 40, 3, 11);
            // The last rule that names 0.d is behind those that define d.
            Kit.is("store of d", x.store(1, 0), 1);
            Kit.is("store of u", x.store(1, 1), 0);
        }
    }

    // Stores

    @Kit.Of(where = "Terms 2", sentence = "A visit DEFINES, of a symbol, all that its productions' plans of that visit "
            + "evaluate (as an attribute of a symbol), and all that the visits in them define (least relation).")
    static void whatAVisitDefines() {
        String head = "symbol r up v;symbol w up u;symbol z up u;symbol t down d up u;"
                + "p:r=w t{2.d=1;0.v=1.u+2.u;}q:w=z{0.u=1.u;}e:t={0.u=0.d;}";
        // Between 2.d and its visit is that of w, which visits z, which defines d of a t; or doesn't.
        Kit.storesAre(head + "y:z=t{1.d=2;0.u=1.u;}", 3, 1, 0);
        Kit.storesAre(head + "y:z={0.u=1;}", 3, 0, 0);
        Kit.storesAre(head + "y:z={0.u=1;}o:z=w{0.u=1.u;}", 3, 0, 0);
        Kit.storesAre(head + "y:z={0.u=1;}o:z=w t{2.d=1;0.u=1.u;}", 3, 1, 0);
        // The longer way, in both orders; the last symbol and the last production have nothing to do with it.
        String far = "symbol r up v;symbol a up u;symbol b up u;symbol c up u;symbol d up u;symbol t down d up u;symbol o up u;";
        String[] way = {"p:r=a t{2.d=1;0.v=1.u+2.u;}", "a:a=b{0.u=1.u;}", "b:b=c{0.u=1.u;}", "c:c=d{0.u=1.u;}",
            "d:d=t{1.d=2;0.u=1.u;}", "e:t={0.u=0.d;}", "o:o={0.u=1;}"};
        Kit.storesAre(far + String.join("", way), 5, 1, 0);
        Kit.storesAre(far + way[4] + way[3] + way[2] + way[1] + way[0] + way[5] + way[6], 5, 1, 0);
        Kit.storesAre(far + String.join("", way).replace("d:d=t{1.d=2;0.u=1.u;}", "d:d={0.u=1;}"), 5, 0, 0);
        // What one symbol's visit defines isn't what the visit of the symbol behind it does: w's second and t's first.
        Kit.storesAre("symbol r up v;symbol w down b up x,y;symbol t down d up u;p:r=w t{1.b=1.x;2.d=1.x;0.v=1.y+2.u;}"
                + "q:w={0.x=1;0.y=0.b;}e:t={0.u=0.d;}", 1, 0, 0, 0);
        // What it defines of one symbol isn't what it defines of another: y of w, and u of t, their third ones.
        Kit.storesAre("symbol r up v;symbol w down b up x,y;symbol t down d up k,u;p:r=t w{1.d=1;2.b=2.x;0.v=1.u;}"
                + "q:w={0.x=1;0.y=0.b;}e:t={0.k=1;0.u=0.d;}", 2, 0, 0, 0);
        // One visit defines what another one of the same symbol doesn't.
        String twice = "symbol r up v;symbol w down b up x,y;symbol t down d up u;e:t={0.u=0.d;}";
        Kit.storesAre(twice + "p:r=w t{2.d=1;1.b=1.x+2.u;0.v=1.y;}q:w=t{1.d=0.b;0.x=1;0.y=1.u;}", 2, 0, 0);
        Kit.storesAre(twice + "p:r=w t{2.d=1;1.b=1.x+2.u;0.v=1.y+2.u;}q:w=t{1.d=0.b;0.x=1;0.y=1.u;}", 2, 0, 1);
        Kit.storesAre(twice + "p:r=w t{2.d=1;1.b=1.x+2.u;0.v=1.y;}q:w=t{1.d=7;0.x=1.u;0.y=0.b;}", 2, 1, 0);
    }

    @Kit.Of(where = "Terms 2", sentence = "down: wherever a production of the symbol names it of occurrence 0, that rule is "
            + "evaluated in visit v; and wherever it is defined of occurrence i, that is in the same visit's plan as "
            + "the v-th visit of i;")
    static void keptShortDown() {
        // a of visit 1 is named in visit 2; b of visit 2 isn't.
        Kit.storesAre(Kit.TWICE, 1, 2, 0, 0, 0);
        Kit.storesAre(Kit.TWICE.replace("0.a*0.b", "0.b"), 1, 0, 0, 0, 0);
        // One production of two is enough.
        Kit.storesAre(Kit.TWICE.replace("0.a*0.b", "0.b") + "k:t={0.x=0.a;0.y=0.a+0.b;}", 1, 2, 0, 0, 0);
        String first = "symbol r up v;symbol t down a,b up x,y;q:t=#{0.x=0.a+#;0.y=0.a*0.b;}p:r=#t{1.a=#;1.b=1.x;0.v=1.y;}";
        Kit.storesAre(first, 1, 2, 0, 0, 0);
        // e of t is defined in the plan of s's visit 1, t is visited in that of visit 2.
        String head = "symbol r up v;symbol s down d up u,w;symbol t down d,e up w;p:r=s{1.d=1.u;0.v=1.w;}"
                + "e:t={0.w=0.d+0.e;}";
        Kit.storesAre(head + "q:s=t{0.u=1;1.d=0.d;1.e=4;0.w=1.w;}", 2, 0, 2, 0);
        Kit.storesAre(head + "q:s=t{0.u=1;1.d=0.d;1.e=0.d;0.w=1.w;}", 2, 0, 0, 0);
    }

    @Kit.Of(where = "Terms 2", sentence = "up: wherever a production of the symbol evaluates it, that is in the plan of "
            + "visit v; and wherever it is named of occurrence i, that rule is evaluated in the same visit's plan as "
            + "the v-th visit of i.")
    static void keptShortUp() {
        // k evaluates w of visit 2 in visit 1.
        String head = "symbol r up v;symbol s down d up u,w;p:r=s{1.d=1.u;0.v=1.w;}q:s={0.u=1;0.w=0.d;}";
        Kit.storesAre(head, 1, 0, 0, 0);
        Kit.storesAre(head + "k:s={0.u=1;0.w=2;}", 1, 0, 0, 2);
        // u of t comes by a visit in the plan of s's visit 1, and is named in that of visit 2.
        String two = "symbol r up v;symbol s down d up u,w;symbol t down d up u,w;p:r=s{1.d=1.u;0.v=1.w;}"
                + "e:t={0.u=1;0.w=0.d;}";
        Kit.storesAre(two + "q:s=t{0.u=1.u;1.d=0.d;0.w=1.w+1.u;}", 2, 0, 2, 0);
        Kit.storesAre(two + "q:s=t{0.u=1.u;1.d=0.d;0.w=1.w;}", 2, 0, 0, 0);
    }

    @Kit.Of(where = "Terms 2", sentence = "down: in plans in which it is defined of i nothing between that rule and the "
            + "v-th visit of i (neither of them counts) defines it (also of another occurrence),")
    static void aloneDownWhereItIsDefined() {
        String head = "symbol r up v;symbol t down d up u;e:t={0.u=0.d;}";
        // The rule and the visit themselves define it.
        Kit.storesAre(head + "p:r=t{1.d=1;0.v=1.u;}q:t=t{1.d=0.d;0.u=1.u;}", 1, 0, 0);
        // Two rules, then two visits: 2.d stands between.
        Kit.storesAre(head + "p:r=t t{1.d=1;2.d=2;0.v=2.u;}", 1, 1, 0);
        // A rule, its visit, a rule, its visit.
        Kit.storesAre(head + "p:r=t t{1.d=1;2.d=1.u;0.v=2.u;}", 1, 0, 0);
        // A visit between, which defines it in the production q.
        String other = "symbol r up v;symbol w up u;symbol t down d up u;q:w=t{1.d=2;0.u=1.u;}e:t={0.u=0.d;}";
        Kit.storesAre(other + "p:r=w t{2.d=1;0.v=1.u+2.u;}", 2, 1, 0);
        Kit.storesAre(other + "p:r=t w{1.d=1;0.v=2.u;}", 2, 0, 0);
    }

    @Kit.Of(where = "Terms 2", sentence = "and in plans of visit v of productions of the symbol nothing ahead of the last "
            + "rule that names it of occurrence 0, if there is one;")
    static void aloneDownWhereItIsNamed() {
        String head = "symbol r up v;symbol s down d up u;p:r=s{1.d=1;0.v=1.u;}e:s={0.u=0.d;}";
        // The last rule that names it is behind 1.d and its visit; or is 1.d itself; or there is none.
        Kit.storesAre(head + "q:s=s{1.d=0.d+1;0.u=1.u*0.d;}", 1, 1, 0);
        Kit.storesAre(head + "q:s=s{1.d=0.d+1;0.u=1.u;}", 1, 0, 0);
        Kit.storesAre(head + "q:s=s{1.d=7;0.u=1.u;}", 1, 0, 0);
        // 0.u that names it is ahead of 1.d.
        Kit.storesAre(head + "q:s=s{1.d=7;0.u=0.d;}", 1, 0, 1);
    }

    @Kit.Of(where = "Terms 2", sentence = "up: in plans that evaluate it nothing behind that;")
    static void aloneUpWhereItIsEvaluated() {
        String head = "symbol r up v;symbol s down d up u;p:r=s{1.d=1;0.v=1.u;}e:s={0.u=0.d;}";
        Kit.storesAre(head + "q:s=s{1.d=0.d;0.u=1.u;}", 1, 0, 0);
        // The visit of 1, which defines u, comes behind 0.u.
        Kit.storesAre(head + "q:s=s{1.d=0.d;0.u=1;}", 1, 0, 1);
        Kit.storesAre("symbol r up v;symbol s up u;p:r=s{0.v=1.u;}e:s={0.u=1;}q:s=s{0.u=2;}", 1, 1);
        // One that doesn't define it may come behind.
        Kit.storesAre("symbol r up v;symbol s down d up u;symbol z up u;p:r=s{1.d=1;0.v=1.u;}e:s={0.u=0.d;}"
                + "q:s=z{0.u=1;}k:z={0.u=1;}", 1, 0, 0);
    }

    @Kit.Of(where = "Terms 2", sentence = "and in plans with the v-th visit of i nothing between that visit and the last "
            + "rule that names it of i, if there is one.")
    static void aloneUpWhereItIsNamed() {
        String head = "symbol r up v,w;symbol t up u;e:t={0.u=1;}";
        // Two visits, then the rules: 1.u is no more there when the second is done.
        Kit.storesAre(head + "p:r=t t{0.v=1.u;0.w=2.u;}", 1, 1);
        Kit.storesAre(head + "p:r=t t{0.v=2.u;0.w=2.u;}", 1, 0);
        Kit.storesAre(head + "p:r=t t{0.v=1;0.w=1;}", 1, 0);
        // The last of several rules counts: 0.w comes behind the second visit.
        String down = "symbol r up v,w;symbol t down d up u;e:t={0.u=0.d;}";
        Kit.storesAre(down + "p:r=t t{1.d=1;2.d=1.u;0.v=1.u;0.w=2.u;}", 1, 0, 0);
        Kit.storesAre(down + "p:r=t t{1.d=1;2.d=1.u;0.v=1.u;0.w=1.u+2.u;}", 1, 0, 1);
    }

    @Kit.Of(where = "Terms 2", sentence = "Its STORE is 0 (one place for all) if it is alone; 1 (a place with each visit) if "
            + "it is kept short; 2 (a place with each node) otherwise, and for all attributes of the root.")
    static void storesOfTheRootAndOfNoProduction() {
        Kit.storesAre("symbol r up " + Kit.EIGHT + ";p:r={" + Kit.eightRules(0, "1") + "}", 0, 2, 2, 2, 2, 2, 2, 2, 2);
        Kit.storesAre("symbol r up v;p:r=r{0.v=1.v+1;}q:r={0.v=1;}", 0, 2);
        Kit.storesAre("symbol r up v;symbol s;p:s={}", 0, 2);
        Kit.storesAre("symbol r;symbol s down d up u;p:r={}", 1, 0, 0);
        Kit.storesAre(Kit.CHAIN, 1, 0, 0);
        Kit.storesAre(Kit.PAIR, 1, 1, 1);
        Kit.storesAre(Kit.LISTS, 1, 1, 1, 0);
        Kit.storesAre(Kit.LISTS, 2, 1, 0);
    }

    @Kit.Of(where = "Terms 2",
            sentence = "FRAME of a production: how many attributes of store 1 its occurrences 1, 2, 3 have together.")
    static void framesFromNoneToTwentyFour() {
        Kit.is("of a production without symbols", Kit.with(Kit.PAIR, "top(leaf 1)").count(5), 2);
        Kit.is("of one whose own symbol has some", Kit.with(Kit.PAIR, "top(more(leaf 1))").count(5), 4);
        Kit.is("none of store 1", Kit.with(Kit.CHAIN, "top(more(leaf 1))").count(5), 0);
        String most = "symbol r;symbol t down " + Kit.EIGHT + ";p:r=t t t{" + Kit.eightRules(1, "1")
                + Kit.eightRules(2, "1") + Kit.eightRules(3, "1") + "}e:t={}";
        Kit.is("of three, eight each", Kit.with(most, "p(e,e,e)").count(5), 24);
    }
}
