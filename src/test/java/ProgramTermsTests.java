/** A test for each sentence of the document's Terms 4 (THE PROGRAM), with answers worked out by hand. */
public final class ProgramTermsTests {
    public static void main(String[] args) {
        Kit.runAll(ProgramTermsTests.class);
    }

    // Code

    @Kit.Of(where = "Terms 4", sentence = "THE PROGRAM of a grammar are INSTRUCTIONS, numbered from 0, each of a KIND and "
            + "with a number: for each production, for each visit of its head, the entries of the plan, one behind "
            + "the other, then BACK.")
    static void productionsOneBehindTheOther() {
        AttributeHouse x = Kit.with(Kit.CHAIN, "top(leaf 1)");
        Kit.codeIs(x, 0, 0, 5, 16, 0, 19, 1, 3, 1, 0, 1, 7, 0, 15, 0, 20, 0);
        Kit.codeIs(x, 8, 3, 0, 0, 2, 9, 0, 16, 0, 19, 1, 3, 1, 16, 1, 20, 0);
        Kit.codeIs(x, 16, 3, 0, 1, 0, 8, 0, 16, 1, 20, 0);
        Kit.throwing("behind the last one", Kit.IOOBE, () -> x.code(21, 0));
        // An empty plan is BACK alone.
        AttributeHouse y = Kit.with("symbol a;symbol b down d;p:a={}q:b={}r:a=b{1.d=1;}");
        Kit.codeIs(y, 0, 20, 0, 20, 0, 0, 1, 16, 0, 19, 1, 20, 0);
        Kit.throwing("behind the last one", Kit.IOOBE, () -> y.code(6, 0));
        // Two visits: the second one's code is behind the first one's BACK.
        AttributeHouse z = Kit.with(Kit.TWICE);
        Kit.codeIs(z, 0, 1, 0, 15, 10, 19, 1, 3, 1, 16, 0, 19, 1, 3, 2, 15, 0, 20, 0);
        Kit.codeIs(z, 9, 2, 0, 1, 0, 7, 0, 16, 1, 20, 0);
        Kit.codeIs(z, 14, 2, 0, 3, 0, 9, 0, 16, 2, 20, 0);
        Kit.throwing("behind the last one", Kit.IOOBE, () -> z.code(19, 0));
    }

    @Kit.Of(where = "Terms 4", sentence = "An attribute that is evaluated: the code of its rule's expression, then a SET of it; "
            + "an occurrence that is visited: VISIT.")
    static void entriesBecomeCode() {
        // The last rule waits for the visit of 1, and comes behind that of 2, which is in the same round.
        AttributeHouse x = Kit.with("symbol r up v,w;symbol s down d up u;symbol t up u;p:r=s t{0.v=1;1.d=2+3;0.w=1.u;}");
        Kit.planIs(x, 0, 1, 10, 20, 1, 2, 11);
        Kit.codeIs(x, 0, 0, 1, 15, 0, 0, 2, 0, 3, 7, 0, 16, 0, 19, 1, 19, 2, 3, 1, 15, 1, 20, 0);
        Kit.throwing("behind it", Kit.IOOBE, () -> x.code(11, 0));
    }

    @Kit.Of(where = "Terms 4", sentence = "CODE: of a number 0 NUMBER, with it; # 1 LITERAL; an attribute a GET; - ahead: the "
            + "factor's, 6 NEGATE; of two with a sign between the left one's, the right one's, then 7 ADD, "
            + "8 SUBTRACT, 9 MULTIPLY, 10 DIVIDE, 11 BELOW, 12 LIKE;")
    static void codeOfOperations() {
        String[] signs = {"+", "-", "*", "/", "<", "="};
        for (int i = 0; i < 6; i++) {
            Kit.codeIs(Kit.with(Kit.rule("5" + signs[i] + "7")), 0, 0, 5, 0, 7, 7 + i, 0, 15, 0, 20, 0);
        }
        Kit.codeIs(Kit.with(Kit.rule("0")), 0, 0, 0, 15, 0, 20, 0);
        Kit.codeIs(Kit.with(Kit.rule("999999")), 0, 0, 999999, 15, 0, 20, 0);
        Kit.codeIs(Kit.with(Kit.rule("000010")), 0, 0, 10, 15, 0, 20, 0);
        Kit.codeIs(Kit.with(Kit.rule("#")), 0, 1, 0, 15, 0, 20, 0);
        Kit.codeIs(Kit.with(Kit.rule("--5")), 0, 0, 5, 6, 0, 6, 0, 15, 0, 20, 0);
        Kit.codeIs(Kit.with(Kit.rule("((5))")), 0, 0, 5, 15, 0, 20, 0);
        Kit.codeIs(Kit.with(Kit.rule("1-2-3")), 0, 0, 1, 0, 2, 8, 0, 0, 3, 8, 0, 15, 0, 20, 0);
        Kit.codeIs(Kit.with(Kit.rule("1-(2-3)")), 0, 0, 1, 0, 2, 0, 3, 8, 0, 8, 0, 15, 0, 20, 0);
        Kit.codeIs(Kit.with(Kit.rule("-1*2<3+#/4")), 0, 0, 1, 6, 0, 0, 2, 9, 0, 0, 3, 1, 0, 0, 4, 10, 0, 7, 0, 11, 0,
                15, 0, 20, 0);
    }

    @Kit.Of(where = "Terms 4", sentence = "if e then f else g: e's, 13 TEST with the number of the instruction with which g's "
            + "begins, f's, 14 JUMP with the number of the one behind g's, g's.")
    static void codeOfChoices() {
        Kit.codeIs(Kit.with(Kit.rule("if 1 then 2 else 3")), 0, 0, 1, 13, 4, 0, 2, 14, 5, 0, 3, 15, 0, 20, 0);
        // Not the first rule, and an if behind else: # < 2, TEST 9, - 3, JUMP 20, 9: 4 = 5, TEST 17, 6 / 7, JUMP 20,
        // 17: 8 * 9, 20: SET.
        Kit.codeIs(Kit.with("symbol r up v,w;p:r=#{0.v=1;0.w=if #<2 then -3 else if (4=5) then 6/7 else 8*9;}"), 0,
                0, 1, 15, 0, 1, 0, 0, 2, 11, 0, 13, 9, 0, 3, 6, 0, 14, 20, 0, 4, 0, 5, 12, 0, 13, 17,
                0, 6, 0, 7, 10, 0, 14, 20, 0, 8, 0, 9, 9, 0, 15, 1, 20, 0);
        // An if ahead of then, and one behind it.
        Kit.codeIs(Kit.with(Kit.rule("if if 1 then 2 else 3 then if 4 then 5 else 6 else 7")), 0,
                0, 1, 13, 4, 0, 2, 14, 5, 0, 3, 13, 12, 0, 4, 13, 10, 0, 5, 14, 11, 0, 6, 14, 13, 0, 7, 15, 0, 20, 0);
        // The rule stands first in the text and comes second in the plan.
        Kit.codeIs(Kit.with("symbol r up v,w;p:r={0.w=if 1 then 2 else 3;0.v=9;}"), 0,
                0, 9, 15, 0, 0, 1, 13, 6, 0, 2, 14, 7, 0, 3, 15, 1, 20, 0);
        // In the second production.
        Kit.codeIs(Kit.with("symbol r up v;q:r={0.v=1;}p:r={0.v=if 1 then 2 else 3;}"), 3,
                0, 1, 13, 7, 0, 2, 14, 8, 0, 3, 15, 0, 20, 0);
    }

    @Kit.Of(where = "Terms 4", sentence = "2: 2 NODE, 15 SETNODE, ten times the occurrence and the attribute;")
    static void getsAndSetsOfNodes() {
        // The root's attributes, of occurrences 0 .. 3, up to the eighth one.
        AttributeHouse x = Kit.with("symbol r up " + Kit.EIGHT + ";p:r=r r r{"
                + Kit.eightRules(0, "1.a+2.b+3.h") + "}");
        Kit.codeIs(x, 0, 19, 1, 19, 2, 19, 3);
        for (int a = 0; a < 8; a++) {
            Kit.codeIs(x, 3 + 6 * a, 2, 10, 2, 21, 7, 0, 2, 37, 7, 0, 15, a);
        }
        Kit.codeIs(x, 51, 20, 0);
        // One down of store 2: set of occurrence 1, got of occurrence 0.
        AttributeHouse y = Kit.with(Kit.TWICE);
        Kit.codeIs(y, 1, 15, 10);
        Kit.codeIs(y, 9, 2, 0);
    }

    @Kit.Of(where = "Terms 4", sentence = "0: 3 ALONE, 16 SETALONE, how many attributes of store 0 are ahead of it "
            + "(by symbols, then by attributes);")
    static void getsAndSetsAlone() {
        AttributeHouse x = Kit.with(Kit.TWICE);
        // b, x and y are 0, 1, 2: a is not of store 0.
        Kit.codeIs(x, 3, 3, 1, 16, 0, 19, 1, 3, 2);
        StringBuilder most = new StringBuilder("symbol a up v;");
        for (char s = 'b'; s <= 'l'; s++) {
            most.append("symbol ").append(s).append(" up ").append(Kit.EIGHT).append(';');
        }
        AttributeHouse y = Kit.with(most + "p:a=b l{0.v=1.h+2.h;}e:b={" + Kit.eightRules(0, "1") + "}q:l={"
                + Kit.eightRules(0, "1") + "}", "p(e,q)");
        Kit.codeIs(y, 0, 19, 1, 19, 2, 3, 7, 3, 87, 7, 0, 15, 0, 20, 0);
        for (int a = 0; a < 8; a++) {
            Kit.codeIs(y, y.start(1, 1) + 2 * a, 0, 1, 16, a);
            Kit.codeIs(y, y.start(2, 1) + 2 * a, 0, 1, 16, 80 + a);
        }
        Kit.is("variables", y.count(6), 88);
    }

    @Kit.Of(where = "Terms 4", sentence = "1: of occurrence 0 5 ABOVE, 18 SETABOVE, how many of its symbol's of store 1 are "
            + "ahead of it; of another one 4 FRAME, 17 SETFRAME, how many of store 1 are ahead of it "
            + "(of occurrences 1, 2, 3, each by its attributes).")
    static void getsAndSetsOfFrames() {
        AttributeHouse x = Kit.with(Kit.PAIR);
        Kit.codeIs(x, x.start(3, 1), 5, 0, 17, 0, 5, 0, 0, 1, 7, 0, 17, 2, 19, 1, 19, 2, 4, 1, 4, 3, 8, 0, 18, 1, 20, 0);
        Kit.codeIs(x, x.start(2, 1), 5, 0, 1, 0, 8, 0, 18, 1, 20, 0);
        // Eight down of three occurrences: places 0 .. 23; q gets them of occurrence 0.
        AttributeHouse y = Kit.with("symbol r;symbol t down " + Kit.EIGHT + ";p:r=t t t{" + Kit.eightRules(1, "1")
                + Kit.eightRules(2, "1") + Kit.eightRules(3, "1") + "}q:t=t{" + Kit.eightRules(1, "0.h+0.a") + "}");
        for (int i = 0; i < 24; i++) {
            Kit.codeIs(y, 2 * i, 0, 1, 17, i);
        }
        for (int a = 0; a < 8; a++) {
            Kit.codeIs(y, y.start(1, 1) + 4 * a, 5, 7, 5, 0, 7, 0, 17, a);
        }
        // Eight up, set of occurrence 0 and got of 2 and 3.
        AttributeHouse z = Kit.with("symbol r up v;symbol t up " + Kit.EIGHT + ";p:r=t t t{0.v=1.a+1.b+1.c+1.d+1.e+1.f"
                + "+1.g+1.h+2.a+2.h+3.h;}e:t={" + Kit.eightRules(0, "1") + "}");
        Kit.codeIs(z, 16, 4, 7, 7, 0, 4, 8, 7, 0, 4, 15, 7, 0, 4, 23);
        for (int a = 0; a < 8; a++) {
            Kit.codeIs(z, z.start(1, 1) + 2 * a, 0, 1, 18, a);
        }
        // Those of other stores aren't counted: of s, d has store 1 and u has store 0; t comes behind it.
        AttributeHouse w = Kit.with("symbol r up v;symbol s down d up u;symbol t up a;q:s={0.u=0.d;}k:t={0.a=1;}"
                + "p:r=s s t{1.d=1;2.d=2;0.v=2.u+3.a;}o:r=t t{0.v=1.a;}");
        Kit.codeIs(w, w.start(2, 1), 0, 1, 17, 0, 0, 2, 17, 1, 19, 1, 19, 2, 19, 3, 3, 0, 4, 2, 7, 0, 15, 0, 20, 0);
    }

    @Kit.Of(where = "Terms 4", sentence = "19 VISIT has the occurrence; 20 BACK and all others 0.")
    static void numbersOfTheOthers() {
        AttributeHouse x = Kit.with("symbol r;p:r=r r r{}");
        Kit.codeIs(x, 0, 19, 1, 19, 2, 19, 3, 20, 0);
        AttributeHouse y = Kit.with(Kit.rule("-#+1-2*3/4<5"));
        // LITERAL NEGATE 1 ADD 2 3 MULTIPLY 4 DIVIDE SUBTRACT 5 BELOW
        int[] zeros = {0, 1, 3, 6, 8, 9, 11};
        for (int i : zeros) {
            Kit.is("number of " + i, y.code(i, 1), 0);
        }
    }

    // The machine

    @Kit.Of(where = "Terms 4", sentence = "THE PROGRAM'S MACHINE has a PLACE, the number of the instruction that is next, a "
            + "STACK of values, nodes UNDER WAY, VARIABLES (those of store 0) and what is kept with nodes (store 2).")
    static void asManyNodesUnderWayAsThereCanBe() {
        AttributeHouse x = Kit.begun("symbol r;p:r=r{}e:r={}", Kit.nest(250));
        Kit.is("down", x.step(249), 249);
        Kit.machineIs(x, 2, 250, 0, 249, 249, 3);
        Kit.is("up", x.step(249), 249);
        Kit.machineIs(x, 1, 1, 0, 498, 0, 3);
        Kit.is("and out", x.step(100000), 1);
        Kit.machineIs(x, -1, 0, 0, 499, -1, 3);
    }

    @Kit.Of(where = "Terms 4", sentence = "THE PROGRAM'S MACHINE has a PLACE, the number of the instruction that is next, a "
            + "STACK of values, nodes UNDER WAY, VARIABLES (those of store 0) and what is kept with nodes (store 2).")
    static void asManyValuesAsThereCanBe() {
        StringBuilder deepest = new StringBuilder();
        for (int i = 0; i < 30; i += 3) {
            deepest.append(i).append('<').append(i + 1).append('+').append(i + 2).append("*(");
        }
        deepest.append("30<31+32*33").append(")".repeat(10));
        AttributeHouse x = Kit.begun(Kit.rule(deepest.toString()), "p 0");
        x.step(34);
        Kit.is("values", x.machine(2), 34);
        for (int k = 0; k < 34; k++) {
            Kit.is("top(" + k + ")", x.top(k), 33 - k);
        }
        Kit.throwing("top(34)", Kit.IOOBE, () -> x.top(34));
        // 30 < 31 + 32 * 33 is 1, and so are all others.
        x.step(3);
        Kit.is("values then", x.machine(2), 31);
        Kit.is("the innermost one", x.top(0), 1);
        x.step(100000);
        Kit.is("at last", x.held(0, 0), 1);
    }

    @Kit.Of(where = "Terms 4", sentence = "It begins with node 0's first visit, all 0, without values on the stack and "
            + "instructions done, and is OVER behind BACK of node 0's last one;")
    static void fromTheBeginTillItIsOver() {
        AttributeHouse x = Kit.with(Kit.TWICE, "p 4(q 3)");
        for (int round = 0; round < 2; round++) {
            // The second time it begins in the midst, and a third time when it is over: all is 0 again.
            Kit.is("begin", x.begin(), 0);
            Kit.machineIs(x, 0, 1, 0, 0, 0, 19);
            for (int k = 0; k < 3; k++) {
                Kit.is("alone(" + k + ")", x.alone(k), 0);
            }
            Kit.is("held(0, 0)", x.held(0, 0), 0);
            Kit.is("held(1, 0)", x.held(1, 0), 0);
            Kit.is("instructions", x.step(round == 0 ? 13 : 18), round == 0 ? 13 : 18);
        }
        Kit.machineIs(x, 8, 1, 0, 18, 0, 19);
        Kit.is("the last BACK", x.step(100), 1);
        Kit.machineIs(x, -1, 0, 0, 19, -1, 19);
        Kit.is("what it kept stays", x.held(0, 0), 28);
        Kit.is("variables stay", x.alone(2), 28);
        Kit.is("nothing is left", x.step(100), 0);
        Kit.is("begin when it is over", x.begin(), 0);
        Kit.machineIs(x, 0, 1, 0, 0, 0, 19);
        Kit.is("all 0", x.held(0, 0) + x.alone(2), 0);
    }

    @Kit.Of(where = "Terms 4", sentence = "behind BACK of another visit of node 0 its next one begins.")
    static void node0HasOneVisitAlone() {
        // Nothing of the root is down, so all of it has level 1: there is no other visit of node 0 that could begin.
        String[][] all = {{Kit.CHAIN, "top(leaf 3)"}, {Kit.TWICE, "p 4(q 3)"}, {Kit.ERRORS, "p(n 1,n 2)"},
            {"symbol r up a,b;p:r=r r{0.a=1.a+2.b;0.b=2.a;}e:r={0.a=1;0.b=2;}", "p(e,p(e,e))"}, {"symbol r;p:r={}", "p"}};
        for (String[] one : all) {
            AttributeHouse x = Kit.begun(one[0], one[1]);
            Kit.is("visits of the root", x.level(0, -1), 1);
            int backs = 0;
            for (int i = 0; i < 100 && x.machine(0) != Kit.NONE; i++) {
                backs += x.machine(4) == 0 && x.code(x.machine(0), 0) == 20 ? 1 : 0;
                x.step(1);
            }
            Kit.is("BACK of node 0", backs, 1);
            Kit.is("it is over then", x.machine(1), 0);
        }
    }

    @Kit.Of(where = "What it is", sentence = "a plan made by which the attributes of any tree are evaluated, each once.")
    static void eachAttributeIsEvaluatedOnce() {
        String[][] all = {{Kit.CHAIN, "top(more(leaf 3))"}, {Kit.PAIR, "top(pair(leaf 1,leaf 2))"}, {Kit.TWICE, "p 4(q 3)"},
            {Kit.LISTS, "root(one(zero),one(zero))"}};
        for (String[] one : all) {
            AttributeHouse x = Kit.begun(one[0], one[1]);
            int sets = 0;
            int visits = 0;
            for (int place = x.machine(0); place != Kit.NONE; place = x.machine(0)) {
                int kind = x.code(place, 0);
                sets += kind >= 15 && kind <= 18 ? 1 : 0;
                visits += kind == 20 ? 1 : 0;
                x.step(1);
            }
            Kit.is("attributes set", sets, x.count(1));
            Kit.is("visits ended", visits, x.count(2));
        }
    }

    @Kit.Of(where = "Terms 4", sentence = "An instruction's values go from the stack and come to it as its name says:")
    static void valuesGoAndCome() {
        AttributeHouse x = Kit.begun(Kit.rule("-7-#*2"), "p 3");
        int[] place = {1, 2, 3, 4, 5, 6, 7};
        int[] height = {1, 1, 2, 3, 2, 1, 0};
        int[] top = {7, -7, 3, 2, 6, -13, 0};
        for (int i = 0; i < 7; i++) {
            Kit.is("step", x.step(1), 1);
            Kit.machineIs(x, place[i], 1, height[i], i + 1, 0);
            if (height[i] > 0) {
                Kit.is("top", x.top(0), top[i]);
            }
        }
        Kit.is("held", x.held(0, 0), -13);
    }

    /** 1, 1 / #, TEST 7, 2, JUMP 8, 7: 3, 8: ADD; ahead of TEST. */
    private static AttributeHouse aheadOfTest(int literal) {
        AttributeHouse x = Kit.begun(Kit.rule("1+(if 1/# then 2 else 3)"), "p " + literal);
        x.step(4);
        Kit.machineIs(x, 4, 1, 2, 4);
        return x;
    }

    @Kit.Of(where = "Terms 4", sentence = "TEST takes one: with 0 on to its number, with the error the error comes back to the "
            + "stack, and on to the number of the JUMP that stands ahead of there; with others to the one behind it.")
    static void testWithZeroAnotherAndTheError() {
        AttributeHouse none = aheadOfTest(5);
        none.step(1);
        Kit.machineIs(none, 7, 1, 1, 5);
        none.step(100);
        Kit.is("1 + 3", none.held(0, 0), 4);
        for (int literal : new int[] {1, -1}) {
            AttributeHouse other = aheadOfTest(literal);
            other.step(1);
            Kit.machineIs(other, 5, 1, 1, 5);
            other.step(2);
            Kit.machineIs(other, 8, 1, 2, 7);
            other.step(100);
            Kit.is("1 + 2", other.held(0, 0), 3);
        }
        AttributeHouse error = aheadOfTest(0);
        Kit.throwing("the error on the stack", Kit.AE, () -> error.top(0));
        error.step(1);
        Kit.machineIs(error, 8, 1, 2, 5);
        Kit.throwing("the error came back", Kit.AE, () -> error.top(0));
        Kit.is("the value below it", error.top(1), 1);
        error.step(1);
        Kit.throwing("1 and the error", Kit.AE, () -> error.top(0));
        error.step(1);
        Kit.throwing("kept", Kit.AE, () -> error.held(0, 0));
        Kit.is("instructions done", error.machine(3), 7);
    }

    @Kit.Of(where = "Terms 4", sentence = "with the error the error comes back to the stack, and on to the number of the JUMP "
            + "that stands ahead of there;")
    static void testWithTheErrorInOneAnother() {
        // 0: 1 / #, TEST 10, 4: 4, TEST 8, 5, JUMP 9, 8: 6, 9: JUMP 15, 10: 7, TEST 14, 8, JUMP 15, 14: 9, 15: SET.
        AttributeHouse x = Kit.begun(Kit.rule("if 1/# then if 4 then 5 else 6 else if 7 then 8 else 9"), "p 0");
        Kit.codeIs(x, 3, 13, 10, 0, 4, 13, 8, 0, 5, 14, 9, 0, 6, 14, 15, 0, 7, 13, 14, 0, 8, 14, 15, 0, 9, 15, 0);
        x.step(4);
        Kit.machineIs(x, 15, 1, 1, 4);
        Kit.throwing("the error", Kit.AE, () -> x.top(0));
        // 0: 1 / #, TEST 6, 2, JUMP 7, 6: 3, 7: TEST 10, 4, JUMP 11, 10: 5, 11: SET. The error is tested twice.
        AttributeHouse y = Kit.begun(Kit.rule("if if 1/# then 2 else 3 then 4 else 5"), "p 0");
        y.step(4);
        Kit.machineIs(y, 7, 1, 1, 4);
        y.step(1);
        Kit.machineIs(y, 11, 1, 1, 5);
        y.step(100);
        Kit.throwing("kept", Kit.AE, () -> y.held(0, 0));
    }

    @Kit.Of(where = "Terms 4", sentence = "VISIT: that node's next visit, at its production's code of it; BACK: to the one "
            + "behind the VISIT by which it came.")
    static void visitsAndWhereTheyLeadBack() {
        AttributeHouse x = Kit.begun(Kit.CHAIN, "top(more(leaf 3))");
        x.step(2);
        Kit.machineIs(x, 2, 1, 0, 2, 0, 21);
        x.step(1);
        Kit.machineIs(x, 8, 2, 0, 3, 1, 21);
        x.step(5);
        Kit.machineIs(x, 16, 3, 0, 8, 2, 21);
        x.step(5);
        Kit.machineIs(x, 13, 2, 0, 13, 1, 21);
        x.step(3);
        Kit.machineIs(x, 3, 1, 0, 16, 0, 21);
        x.step(5);
        Kit.machineIs(x, -1, 0, 0, 21, -1, 21);
        // The second visit of a node goes on at the second plan.
        AttributeHouse y = Kit.begun(Kit.TWICE, "p 4(q 3)");
        y.step(3);
        Kit.machineIs(y, 9, 2, 0, 3, 1, 19);
        y.step(5);
        Kit.machineIs(y, 3, 1, 0, 8, 0, 19);
        y.step(3);
        Kit.machineIs(y, 14, 2, 0, 11, 1, 19);
        y.step(5);
        Kit.machineIs(y, 6, 1, 0, 16, 0, 19);
        // Nodes of one symbol and of unlike productions: VISIT 1 .. 3, BACK, 4: BACK, 5: VISIT 1, BACK.
        AttributeHouse z = Kit.begun("symbol r;p:r=r r r{}e:r={}f:r=r{}", "p(e,f(e),e)");
        int[] places = {0, 4, 1, 5, 4, 6, 2, 4, 3, -1};
        int[] nodes = {0, 1, 0, 2, 3, 2, 0, 4, 0, -1};
        for (int i = 0; i < places.length; i++) {
            Kit.is("place after " + i, z.machine(0), places[i]);
            Kit.is("node after " + i, z.machine(4), nodes[i]);
            z.step(1);
        }
    }

    @Kit.Of(where = "Terms 4", sentence = "GETS and SETS, by the attribute's store:")
    static void theMachineFindsWhatTheRulesSay() {
        String[][] all = {{Kit.CHAIN, "top(more(more(leaf 3)))"}, {Kit.PAIR, "top(pair(pair(leaf 1,leaf 2),more(leaf 3)))"},
            {Kit.TWICE, "p 4(q 3)"}, {Kit.LISTS, "root(more(one(lit 5),lit 7),one(zero))"}};
        for (String[] one : all) {
            AttributeHouse x = Kit.begun(one[0], one[1]);
            x.step(100000);
            Kit.is("the root's of " + one[1], x.held(0, 0), x.value(0, 0));
        }
    }
}
