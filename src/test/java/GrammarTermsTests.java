/** A test for each sentence of the document's Terms 1 (GRAMMARS), with answers worked out by hand. */
public final class GrammarTermsTests {
    /** A production with one rule; its expression and ;} follow. */
    private static final String RULE = "symbol a up x;p:a={0.x=";

    public static void main(String[] args) {
        Kit.runAll(GrammarTermsTests.class);
    }

    private static void expression(String marked) {
        if (marked.indexOf('^') < 0) {
            Kit.fine(RULE + marked + ";}");
        } else {
            Kit.fault(RULE + marked + ";}");
        }
    }

    // Texts and tokens

    @Kit.Of(where = "Terms 1", sentence = "A TEXT has at most 2400 signs, 32 .. 126 and line ends (10).")
    static void aFullTextIsReadToItsLastSign() {
        String full = "symbol r up v;p:r={0.v=1" + "+1".repeat(1187) + ";}";
        Kit.is("its length", full.length(), 2400);
        AttributeHouse x = Kit.with(full, "p");
        Kit.is("value", x.value(0, 0), 1188);
        Kit.fault(full.substring(0, 2399) + "^;");
        Kit.fault(full.substring(0, 2399) + " ^");
        Kit.fault(" ".repeat(2400) + "^");
        // As many tokens as there can be, and tokens that end with the text.
        Kit.fault("^" + ";".repeat(2400));
        for (String last : new String[] {"a", "abcdefgh"}) {
            Kit.fault("symbol a;p:a={}" + " ".repeat(2385 - last.length()) + last + "^");
        }
        for (String last : new String[] {"1", "#", "123456", "abcdefghi", "1234567", "up", "@"}) {
            Kit.fault("symbol a;p:a={}" + " ".repeat(2385 - last.length()) + "^" + last);
        }
        AttributeHouse y = new AttributeHouse();
        Kit.append(y, full);
        Kit.throwing("one sign more", Kit.UOE, () -> y.put(' '));
    }

    @Kit.Of(where = "Terms 1", sentence = "A TEXT has at most 2400 signs, 32 .. 126 and line ends (10).")
    static void eachByteIsASignOrRefused() {
        for (int place = 0; place < 4; place++) {
            int shift = 8 * place;
            AttributeHouse x = new AttributeHouse();
            int due = 0;
            for (int i = 1; i < 256; i++) {
                int sign = i;
                boolean allowed = sign == 10 || sign >= 32 && sign <= 126;
                due += allowed ? 1 : 0;
                Kit.is("put of byte " + sign + " at " + place, Kit.outcome(() -> x.put(sign << shift)),
                        allowed ? "" + due : Kit.IAE);
            }
        }
    }

    @Kit.Of(where = "Terms 1", sentence = "TOKENS, blanks and line ends between them where needed")
    static void blanksAreNeededBetweenNamesAlone() {
        Kit.fine("symbol a up x;p:a={0.x=if1then2else3;}");
        Kit.fine("symbol\na\nup\nx;p:a={0.x=1;}");
        Kit.fine("\n symbol\n a  up\n\nx ; p : a = { 0 . x = - ( 1 + 2 ) * 3 / 4 - 5 < 6 ; } \n");
        Kit.fine("symbol a;symbol b down\nd up u;p:a=#a\nb{2 . d = # ;}");
        Kit.fault("^symbola;p:a={}");
        Kit.fault("symbol a ^upx;p:a={}");
        Kit.fault("symbol a ^b;p:a={}");
        Kit.fault("^sym bol a;p:a={}");
        expression("1 ^2");
        expression("^i f 1 then 2 else 3");
    }

    @Kit.Of(where = "Terms 1", sentence = "NAMES, one to eight small letters (as many as there are)")
    static void namesHaveOneToEightLetters() {
        Kit.fine("symbol a;p:a={}");
        Kit.fine("symbol abcdefgh up zyxwvuts;qqqqqqqq:abcdefgh={0.zyxwvuts=1;}");
        Kit.fault("symbol ^abcdefghi;p:a={}");
        Kit.fault("symbol a up ^abcdefghi;p:a={}");
        Kit.fault("symbol a;^abcdefghi:a={}");
        Kit.fault("symbol abcdefgh;p:^abcdefghi={}");
        Kit.fault("symbol a;p:a=a ^abcdefghi{}");
        Kit.fault("symbol a up abcdefgh;p:a={0.^abcdefghi=1;}");
        expression("0.^xxxxxxxxx");
        // All letters count, the first and the eighth, too, and how many there are.
        Kit.fine("symbol abcdefgh;symbol abcdefgi;symbol bbcdefgh;symbol abcdefg;symbol aaaaaaaa;symbol aaaaaaa;"
                + "p:abcdefgh={}");
        Kit.fault("symbol zzzzzzzz;symbol zzzzzzzy;symbol ^zzzzzzzz;");
        Kit.fault("symbol ab;p:^a={}");
        Kit.fault("symbol a^1;p:a={}");
        for (char letter = 'a'; letter <= 'z'; letter++) {
            Kit.fine("symbol " + letter + ";" + letter + ":" + letter + "={}");
        }
        for (String none : new String[] {"A", "Z", "_", "`", "{", "1", "@", "["}) {
            Kit.fault("symbol ^" + none + ";p:a={}");
            Kit.fault("symbol a^" + none + ";p:a={}");
        }
    }

    @Kit.Of(where = "Terms 1", sentence = "NUMBERS, one to six digits (zeros ahead are fine)")
    static void numbersHaveOneToSixDigits() {
        Kit.is("one digit", Kit.result("0"), "0");
        Kit.is("the other end", Kit.result("9"), "9");
        Kit.is("six digits", Kit.result("999999"), "999999");
        Kit.is("zeros ahead", Kit.result("000010"), "10");
        Kit.is("no eights in zeros ahead", Kit.result("000018"), "18");
        Kit.is("zeros alone", Kit.result("000000"), "0");
        expression("^1000000");
        expression("^0000000");
        expression("1+^0000001");
        Kit.fine("symbol a up x;p:a={000000.x=1;}");
        Kit.fault("symbol a up x;p:a={^0000000.x=1;}");
        Kit.fine("symbol a up x;p:a=a{0.x=000001.x;}");
        Kit.fault("symbol a up x;p:a=a{0.x=^0000001.x;}");
        AttributeHouse x = Kit.with(Kit.rule("#"));
        Kit.fineTree(x, "p 999999");
        Kit.is("literal", x.node(0, 2), 999999);
        Kit.fineTree(x, "p -000012");
        Kit.is("literal with zeros ahead", x.node(0, 2), -12);
        Kit.treeFault(x, "p ^0000000");
        Kit.treeFault(x, "p -^1000000");
    }

    @Kit.Of(where = "Terms 1", sentence = ": = ; , . { } ( ) # + - * / <.")
    static void otherSignsBeginNoToken() {
        Kit.fine("symbol a up x,y;symbol b down d;p:a=#b{0.x=(#+1-2)*3/4<5;0.y=6=7;1.d=0;}");
        for (char sign = 33; sign < 127; sign++) {
            boolean token = ":=;,.{}()#+-*/<".indexOf(sign) >= 0 || sign >= '0' && sign <= '9'
                    || sign >= 'a' && sign <= 'z';
            if (!token && sign != '^') {
                Kit.fault("^" + sign + "symbol a;p:a={}");
                Kit.fault("symbol a;p:a={}^" + sign);
                Kit.fault("symbol a;p:a={} ^" + sign + " q:a={}");
                expression("1^" + sign + "2");
                expression("^" + sign + "2");
            }
        }
        Kit.answers("symbol a;p:a={}^", 15);
        Kit.answers("^symbol a;p:a={}", 0);
        Kit.answers(RULE + "1^2;}", 24);
    }

    @Kit.Of(where = "Terms 1", sentence = "The names symbol down up if then else are WORDS; they name nothing.")
    static void wordsNameNothing() {
        for (String word : new String[] {"symbol", "down", "up", "if", "then", "else"}) {
            Kit.fault("symbol ^" + word + ";p:a={}");
            Kit.fault("symbol a;symbol b down ^" + word + ";p:a={}");
            Kit.fault("symbol a up x,^" + word + ";p:a={}");
            Kit.fault("symbol a;p:a={}^" + word + ":a={}");
            Kit.fault("symbol a;p:^" + word + "={}");
            Kit.fault("symbol a;p:a=^" + word + "{}");
            Kit.fault("symbol a up x;p:a={0.^" + word + "=1;}");
            expression("0.^" + word);
            Kit.treeFault(Kit.with("symbol a;p:a={}"), "^" + word);
            // More letters or fewer make a name of it.
            String more = word + "s";
            String fewer = word.substring(1);
            Kit.fine("symbol " + more + " up " + fewer + ";" + more + ":" + more + "={0." + fewer + "=1;}");
        }
    }

    @Kit.Of(where = "Terms 1", sentence = "The names symbol down up if then else are WORDS; they name nothing.")
    static void noWordStandsForAnother() {
        String[] words = {"symbol", "symbol", "down", "up", "if", "then", "else"};
        String[] behind = {" a;", " b ", " d ", " u;p:a=b{1.d=", " 1 ", " 2 ", " 3;}"};
        for (int at = 0; at < words.length; at++) {
            for (String other : words) {
                StringBuilder text = new StringBuilder();
                for (int i = 0; i < words.length; i++) {
                    boolean wrong = i == at && !other.equals(words[i]);
                    text.append(wrong ? "^" + other : words[i]).append(behind[i]);
                }
                if (text.indexOf("^") < 0) {
                    Kit.fine(text.toString());
                } else if (!text.toString().contains("b ^up")) {
                    Kit.fault(text.toString());
                }
            }
        }
        // Where down can come up can, too; then it can't come again.
        Kit.fault("symbol a;symbol b up d ^up u;p:a={}");
    }

    // Symbols

    @Kit.Of(where = "Terms 1",
            sentence = "A GRAMMAR is one to twelve SYMBOLS, then one to thirty PRODUCTIONS, up to the end.")
    static void oneToTwelveSymbols() {
        Kit.fault("^");
        Kit.fault("^p:a={}");
        Kit.fine("symbol a;p:a={}");
        AttributeHouse x = Kit.with(Kit.symbols(12) + "p:aa=al al{}");
        Kit.is("symbols", x.size(0), 12);
        Kit.fault(Kit.symbols(12) + "^symbol x;p:aa={}");
        Kit.fault("symbol a;p:a={}^symbol b;");
    }

    @Kit.Of(where = "Terms 1",
            sentence = "A GRAMMAR is one to twelve SYMBOLS, then one to thirty PRODUCTIONS, up to the end.")
    static void oneToThirtyProductions() {
        Kit.fault("symbol a;^");
        Kit.fault(Kit.symbols(12) + "^");
        Kit.is("one", Kit.with("symbol a;p:a={}").size(1), 1);
        AttributeHouse x = Kit.with("symbol a;" + Kit.productions(30, ":a={}"));
        Kit.is("thirty", x.size(1), 30);
        Kit.fineTree(x, Kit.name(29));
        Kit.is("the last of thirty", x.node(0, 0), 29);
        Kit.fault("symbol a;" + Kit.productions(30, ":a={}") + "^x:a={}");
        Kit.fault("symbol a;p:a={}^;");
        Kit.fault("symbol a;p:a={}^}");
        Kit.fault("symbol a;p:a={} q^");
    }

    @Kit.Of(where = "Terms 1", sentence = "SYMBOL: symbol NAME, perhaps down and names with commas, "
            + "perhaps up and names with commas, ; .")
    static void symbolsWithAndWithoutAttributes() {
        Kit.fine("symbol a;symbol b down d;symbol c up u;symbol e down d up u;symbol f down d,e,g up u,v,w;p:a={}");
        Kit.fault("symbol^");
        Kit.fault("symbol ^;");
        Kit.fault("symbol a^");
        Kit.fault("symbol a^,b;");
        Kit.fault("symbol a up^");
        Kit.fault("symbol a up ^;");
        Kit.fault("symbol a up x^");
        Kit.fault("symbol a up x,^;");
        Kit.fault("symbol a up x ^y;");
        Kit.fault("symbol a up ^,x;");
        Kit.fault("symbol a up x,^,y;");
        Kit.fault("symbol a up x ^up y;");
        Kit.fault("symbol a;symbol b down ^;");
        Kit.fault("symbol a;symbol b down ^up x;");
        Kit.fault("symbol a;symbol b down d,^up x;");
        Kit.fault("symbol a;symbol b down d ^down e;");
        Kit.fault("symbol a;symbol b up u ^down d;");
        Kit.fault("symbol a;symbol b down d up u ^down e;");
    }

    @Kit.Of(where = "Terms 1", sentence = "The names are its ATTRIBUTES, at most eight, numbered from 0 as they stand; "
            + "a symbol's are unlike (down and up together).")
    static void atMostEightAttributes() {
        AttributeHouse x = Kit.with("symbol r up " + Kit.EIGHT + ";symbol s down " + Kit.EIGHT + ";"
                + "symbol t down a,b,c up d,e,f,g,h;p:r={" + Kit.eightRules(0, "1") + "}");
        Kit.is("eight up", x.visit(0, 1), 256 * 255);
        Kit.is("eight down", x.visit(1, 1), 255);
        Kit.is("three down, five up", x.visit(2, 1), 7 + 256 * 248);
        Kit.fault("symbol r up " + Kit.EIGHT + ",^i;");
        Kit.fault("symbol r;symbol s down " + Kit.EIGHT + ",^i;");
        Kit.fault("symbol r;symbol s down " + Kit.EIGHT + " up ^i;");
        Kit.fault("symbol r;symbol s down a,b,c up d,e,f,g,h,^i;");
    }

    @Kit.Of(where = "Terms 1", sentence = "The names are its ATTRIBUTES, at most eight, numbered from 0 as they stand; "
            + "a symbol's are unlike (down and up together).")
    static void attributesAreNumberedAsTheyStand() {
        AttributeHouse x = Kit.with("symbol r up z,y,x;p:r={0.x=3;0.y=2;0.z=1;}", "p");
        for (int a = 0; a < 3; a++) {
            Kit.is("value of attribute " + a, x.value(0, a), a + 1);
        }
        Kit.throwing("attribute 3", Kit.IOOBE, () -> x.value(0, 3));
    }

    @Kit.Of(where = "Terms 1", sentence = "The names are its ATTRIBUTES, at most eight, numbered from 0 as they stand; "
            + "a symbol's are unlike (down and up together).")
    static void attributesOfASymbolAreUnlike() {
        Kit.fault("symbol a up x,^x;");
        Kit.fault("symbol a up a,b,c,d,e,f,g,^a;");
        Kit.fault("symbol a;symbol b down d,^d;");
        Kit.fault("symbol a;symbol b down d up ^d;");
        Kit.fault("symbol a;symbol b down d,e up u,^e;");
        Kit.fine("symbol a up x;symbol b down x;symbol c up x;p:a={0.x=1;}");
    }

    @Kit.Of(where = "Terms 1", sentence = "The first symbol, the ROOT, has none that are down.")
    static void theRootHasNoneDown() {
        Kit.fault("symbol a ^down x;p:a={}");
        Kit.fault("symbol a ^down;p:a={}");
        Kit.fault("symbol a ^down x up y;p:a={}");
        Kit.fine("symbol a;symbol b down x;p:a={}");
        Kit.fine("symbol a up x;symbol b down x;p:a={0.x=1;}");
    }

    // Productions

    @Kit.Of(where = "Terms 1",
            sentence = "PRODUCTION: NAME : SYMBOL = perhaps #, none to three symbols, { RULES }.")
    static void noneToThreeSymbols() {
        Kit.fine("symbol a;p:a={}");
        Kit.fine("symbol a;p:a=a{}");
        Kit.fine("symbol a;p:a=a a{}");
        Kit.fine("symbol a;p:a=a a a{}");
        Kit.fine("symbol a;p:a=#{}");
        Kit.fine("symbol a;p:a=#a a a{}");
        Kit.fault("symbol a;p:a=a a a ^a{}");
        Kit.fault("symbol a;p:a=#a a a ^a{}");
        Kit.fault("symbol a;p:a=#^#{}");
        Kit.fault("symbol a;p:a=a ^#{}");
        Kit.fault("symbol a;p:a=a a a^#{}");
        Kit.fault("symbol a;p:a=a^,a{}");
    }

    @Kit.Of(where = "Terms 1",
            sentence = "PRODUCTION: NAME : SYMBOL = perhaps #, none to three symbols, { RULES }.")
    static void eachPartOfAProductionIsNeeded() {
        Kit.fault("symbol a;^:a={}");
        Kit.fault("symbol a;^1:a={}");
        Kit.fault("symbol a;p^");
        Kit.fault("symbol a;p^=a{}");
        Kit.fault("symbol a;p ^a={}");
        Kit.fault("symbol a;p:^={}");
        Kit.fault("symbol a;p:^#={}");
        Kit.fault("symbol a;p:a^{}");
        Kit.fault("symbol a;p:a^#{}");
        Kit.fault("symbol a;p:a=^}");
        Kit.fault("symbol a;p:a=^;");
        Kit.fault("symbol a;p:a={^");
        Kit.fault("symbol a;p:a={^{}}");
    }

    @Kit.Of(where = "Terms 1", sentence = "Its symbols are OCCURRENCES, 0 the one ahead of =, then 1, 2, 3.")
    static void occurrencesFromZeroToThree() {
        String four = "symbol a up x;symbol b up y;symbol c up z;symbol d up w;"
                + "p:a=b c d{0.x=1.y+2.z*10+3.w*100;}q:b={0.y=1;}r:c={0.z=2;}s:d={0.w=3;}";
        Kit.is("all of them", Kit.with(four, "p(q,r,s)").value(0, 0), 321);
        Kit.fault("symbol a up x;symbol b up y;p:a=a b{0.^y=1;}");
        Kit.fault("symbol a up x;symbol b up y;p:a=a b{0.x=1.^y;}");
        Kit.fault("symbol a up x;symbol b up y;p:a=a b{0.x=2.^x;}");
    }

    @Kit.Of(where = "Terms 1", sentence = "With # it has a LITERAL.")
    static void withoutASignNoLiteral() {
        AttributeHouse x = Kit.with("symbol a;p:a=#{}q:a={}");
        Kit.treeFault(x, "p^");
        Kit.treeFault(x, "q ^1");
        Kit.fineTree(x, "q");
        Kit.throwing("change without a literal", Kit.IAE, () -> x.change(0, 1));
        Kit.fineTree(x, "p 1");
        Kit.is("change with a literal", x.change(0, 2), 0);
    }

    // Rules

    @Kit.Of(where = "Terms 1", sentence = "RULE: OCCURRENCE . ATTRIBUTE = EXPRESSION ; .")
    static void eachPartOfARuleIsNeeded() {
        Kit.fault("symbol a up x;p:a={^x=1;}");
        Kit.fault("symbol a up x;p:a={^.x=1;}");
        Kit.fault("symbol a up x;p:a={^;}");
        Kit.fault("symbol a up x;p:a={0^");
        Kit.fault("symbol a up x;p:a={0^x=1;}");
        Kit.fault("symbol a up x;p:a={0^=1;}");
        Kit.fault("symbol a up x;p:a={0.^=1;}");
        Kit.fault("symbol a up x;p:a={0.^");
        Kit.fault("symbol a up x;p:a={0.x^;}");
        Kit.fault("symbol a up x;p:a={0.x^<1;}");
        Kit.fault("symbol a up x;p:a={0.x=^;}");
        Kit.fault("symbol a up x;p:a={0.x=^}");
        Kit.fault("symbol a up x;p:a={0.x=1^}");
        Kit.fault("symbol a up x;p:a={0.x=1^,}");
        Kit.fault("symbol a up x;p:a={0.x=1;^;}");
        Kit.fault("symbol a up x;p:a={0.x=1^");
        Kit.fault("symbol a up x;p:a={0.x=^");
    }

    @Kit.Of(where = "Terms 1", sentence = "The occurrence is a number, the attribute one of its symbol.")
    static void theOccurrenceOfARule() {
        Kit.fine("symbol a;symbol b down y;p:a=a a b{3.y=1;}");
        Kit.fine("symbol a;symbol b down y;p:a=a a b{000003.y=1;}");
        Kit.fault("symbol a;symbol b down y;p:a=a a b{^4.y=1;}");
        Kit.fault("symbol a;symbol b down y;p:a=a a b{^13.y=1;}");
        Kit.fault("symbol a;symbol b down y;p:a=a b{^3.y=1;}");
        Kit.fault("symbol a;symbol b down y;p:a=a b{^999999.y=1;}");
        Kit.fault("symbol a up x;p:a={^1.x=1;}");
        Kit.fault("symbol a;symbol b down y;p:a=a b{^-2.y=1;}");
        Kit.fault("symbol a;symbol b down y;p:a=a b{^(2).y=1;}");
        Kit.fault("symbol a up x;p:a={0.^1=1;}");
        Kit.fault("symbol a up x;p:a={0.^y=1;}");
        // An attribute is named, not numbered.
        Kit.fault("symbol a up a,b;p:a={0.^0=1;}");
        Kit.fault("symbol a up a,b;p:a={0.^1=1;}");
        Kit.fault("symbol a up a,b;p:a=a{0.a=1.^1;}");
        Kit.fault("symbol a up x;symbol b down y;p:a=b{1.^x=1;}");
    }

    @Kit.Of(where = "Terms 1",
            sentence = "It defines an attribute that is up of occurrence 0, or down of another one.")
    static void whatARuleDefines() {
        String head = "symbol a;symbol b down d up u;";
        Kit.fine(head + "p:b=b b b{0.u=1;1.d=1;2.d=1;3.d=1;}");
        Kit.fault(head + "p:b={0.^d=1;}");
        Kit.fault(head + "p:b=b{1.^u=1;}");
        Kit.fault(head + "p:b=b b b{0.u=1;1.d=1;2.d=1;3.^u=1;}");
    }

    @Kit.Of(where = "Terms 1", sentence = "Each of these has one rule in a production.")
    static void noneLacksARuleAndNoneHasTwo() {
        String both = "symbol a up " + Kit.EIGHT + ";symbol b down " + Kit.EIGHT + ";p:a=b b b{";
        String most = Kit.eightRules(0, "1") + Kit.eightRules(1, "1") + Kit.eightRules(2, "1")
                + Kit.eightRules(3, "1");
        Kit.fine(both + most + "}");
        Kit.fault(both + most + "3.^h=1;}");
        Kit.fault(both + most + "0.^a=1;}");
        for (int i = 0; i < most.length(); i += 6) {
            Kit.fault(both + most.substring(0, i) + most.substring(i + 6) + "^}");
        }
        Kit.fault("symbol a up x;p:a={^}");
        Kit.fault("symbol a up x,y;p:a={0.x=1;^}");
        Kit.fault("symbol a;symbol b down d;p:a=b{^}");
        Kit.fault("symbol a;symbol b down d;p:a=b b{1.d=1;^}");
        Kit.fault("symbol a up x;p:a={0.x=1;0.^x=2;}");
        Kit.fault("symbol a;symbol b down d;p:a=b b{1.d=1;1.^d=1;}");
        // Rules may stand in any order.
        Kit.fine("symbol a up x,y;symbol b down d;p:a=b b{2.d=1;0.y=1;1.d=1;0.x=1;}");
    }

    // Expressions

    @Kit.Of(where = "Terms 1", sentence = "EXPRESSION: if EXPRESSION then EXPRESSION else EXPRESSION; or a SUM, "
            + "or two with < or = between.")
    static void anIfHasAllItsParts() {
        expression("if 1 then 2 else 3");
        expression("if 1<2 then 3=4 else 5<6");
        expression("if if 1 then 2 else 3 then if 4 then 5 else 6 else if 7 then 8 else 9");
        expression("if^");
        expression("if ^then 2 else 3");
        expression("if 1^else 2");
        expression("if 1 ^2 then 3 else 4");
        expression("if 1 then ^else 3");
        expression("if 1 then 2^");
        expression("if 1 then 2 ^then 3");
        expression("if 1 then 2 else^");
        expression("if 1 then 2 else 3 ^else 4");
        expression("^then 1");
        expression("^else 1");
        expression("1 ^if 2 then 3 else 4");
        // An if is no part of a sum but in brackets.
        expression("1+^if 1 then 2 else 3");
        expression("1<^if 1 then 2 else 3");
        expression("-^if 1 then 2 else 3");
        expression("1+(if 1 then 2 else 3)");
    }

    @Kit.Of(where = "Terms 1", sentence = "EXPRESSION: if EXPRESSION then EXPRESSION else EXPRESSION; or a SUM, "
            + "or two with < or = between.")
    static void atMostTwoSumsAreCompared() {
        expression("1");
        expression("1<2");
        expression("1=2");
        expression("1<2^<3");
        expression("1=2^=3");
        expression("1<2^=3");
        expression("1=2^<3");
        expression("(1<2)<3");
        expression("1=(2=3)");
        expression("^<1");
        expression("^=1");
        expression("1<^");
        expression("1=^=2");
        expression("1<^=2");
        expression("if 1<2^<3 then 4 else 5");
    }

    @Kit.Of(where = "Terms 1", sentence = "SUM: PRODUCTS with + or - between; a product: FACTORS with * or / between "
            + "(from left to right)")
    static void sumsAndProductsGoFromLeftToRight() {
        Kit.is("differences", Kit.result("100-7-2"), "91");
        Kit.is("a difference ahead of a sum", Kit.result("100-7+2"), "95");
        Kit.is("quotients", Kit.result("100/7/2"), "7");
        Kit.is("a quotient ahead of a product", Kit.result("100/7*3"), "42");
        Kit.is("a product ahead of a quotient", Kit.result("100*3/7"), "42");
        Kit.is("products ahead of sums", Kit.result("2+3*4-10/5"), "12");
        Kit.is("sums ahead of what compares them", Kit.result("1+1<1+2"), "1");
        Kit.is("one factor alone", Kit.result("7"), "7");
        expression("^+1");
        expression("^*1");
        expression("^/1");
        expression("1+^");
        expression("1-^");
        expression("1*^");
        expression("1/^");
        expression("1+^+1");
        expression("1-^*1");
        expression("1*^/1");
        expression("1-^<1");
    }

    @Kit.Of(where = "Terms 1", sentence = "a factor: a number; # (with a literal alone); - and a factor; ( EXPRESSION ); "
            + "OCCURRENCE . ATTRIBUTE, one that is down of occurrence 0, or up of another one "
            + "(a number ahead of a . is an occurrence).")
    static void whatAFactorIs() {
        expression("5");
        expression("-5");
        expression("--5");
        expression("1--5");
        expression("1*-5");
        expression("(5)");
        expression("((5))");
        expression("(if 1 then 2 else 3)*(4<5)");
        expression("-^");
        expression("-^+1");
        expression("(^)");
        expression("(^");
        expression("(1^");
        expression("(1 ^2)");
        expression("1^)");
        expression("(1)^(2)");
        expression("^x");
        expression("^.x");
        expression("1^#");
        Kit.is("minus of a factor alone", Kit.result("-2*3+10"), "4");
        Kit.is("minus of brackets", Kit.result("-(2-3)"), "1");
    }

    @Kit.Of(where = "Terms 1", sentence = "# (with a literal alone)")
    static void aLiteralIsNamedWhereThereIsOne() {
        expression("^#");
        expression("1+^#");
        expression("(^#)");
        Kit.fine("symbol a up x;p:a=#{0.x=#;}");
        Kit.fine("symbol a up x;p:a=#a{0.x=-#+#*1.x;}");
        Kit.fault("symbol a up x;p:a=#{0.x=#;}q:a={0.x=^#;}");
        Kit.fault("symbol a up x;p:a=#{0.x=# ^#;}");
    }

    @Kit.Of(where = "Terms 1", sentence = "OCCURRENCE . ATTRIBUTE, one that is down of occurrence 0, or up of another one "
            + "(a number ahead of a . is an occurrence).")
    static void whatAnExpressionMayName() {
        String head = "symbol a;symbol b down d up u;";
        Kit.fine(head + "p:b=b b{0.u=0.d+1.u;1.d=0.d;2.d=0.d-1.u;}");
        Kit.fault(head + "p:b=b{0.u=0.^u;}");
        Kit.fault(head + "p:b=b{0.u=1.^d;}");
        Kit.fault(head + "p:b=b b b{0.u=3.^d;}");
        Kit.fault(head + "p:b=b{0.u=^2.u;}");
        Kit.fault(head + "p:b=b b b{0.u=^4.u;}");
        Kit.fault(head + "p:b=b{0.u=0.d+^2.d;}");
        Kit.fault(head + "p:b=b{0.u=1.^v;}");
        Kit.fault(head + "p:b=b{0.u=1.^2;}");
        Kit.fault(head + "p:b=b{0.u=1.^;}");
        Kit.fault(head + "p:b=b{0.u=1.^");
        expression("^1.x");
        expression("^1 . x");
        expression("^7.x");
        expression("7+^7\n.x");
        expression("(^999999.x)");
        expression("0.^x");
        // Without a . behind it any number is fine.
        expression("7");
        expression("999999");
    }

    // Ten in one another

    @Kit.Of(where = "Terms 1", sentence = "At most ten if, - (of a factor) and ( in one another "
            + "(what stands behind then and else is within its if).")
    static void atMostTenOfAKind() {
        expression("(".repeat(10) + "1" + ")".repeat(10));
        expression("(".repeat(10) + "^(1" + ")".repeat(11));
        expression("-".repeat(10) + "1");
        expression("-".repeat(10) + "^-1");
        expression("if 1 then 2 else ".repeat(10) + "3");
        expression("if 1 then 2 else ".repeat(10) + "^if 1 then 2 else 3");
        expression("if 1 then ".repeat(10) + "2" + " else 3".repeat(10));
        expression("if 1 then ".repeat(10) + "^if 1 then 2 else 3" + " else 4".repeat(10));
        expression("if ".repeat(10) + "1" + " then 2 else 3".repeat(10));
        expression("if ".repeat(10) + "^if 1 then 2 else 3" + " then 4 else 5".repeat(10));
    }

    @Kit.Of(where = "Terms 1", sentence = "At most ten if, - (of a factor) and ( in one another "
            + "(what stands behind then and else is within its if).")
    static void atMostTenOfAllKinds() {
        expression("-(".repeat(5) + "1" + ")".repeat(5));
        expression("-(".repeat(5) + "^(1)" + ")".repeat(5));
        expression("-(".repeat(5) + "^-1" + ")".repeat(5));
        expression("-(".repeat(5) + "^if 1 then 2 else 3" + ")".repeat(5));
        expression("(if 1 then 2 else ".repeat(5) + "3" + ")".repeat(5));
        expression("(if 1 then 2 else ".repeat(5) + "^-3" + ")".repeat(5));
        expression("if 1 then 2 else " + "(".repeat(9) + "3" + ")".repeat(9));
        expression("if 1 then 2 else " + "(".repeat(9) + "^-3" + ")".repeat(9));
        expression("if 1 then " + "-".repeat(9) + "2 else 3");
        expression("if 1 then " + "-".repeat(9) + "^-2 else 3");
        expression("if 1 then " + "-".repeat(9) + "^(2) else 3");
    }

    @Kit.Of(where = "Terms 1", sentence = "At most ten if, - (of a factor) and ( in one another "
            + "(what stands behind then and else is within its if).")
    static void whatIsEndedCountsNoMore() {
        String ten = "(".repeat(10) + "1" + ")".repeat(10);
        expression(ten + "+" + ten + "*" + ten + "<" + ten);
        expression(ten + "+" + "(".repeat(10) + "^(1)" + ")".repeat(10));
        expression("-".repeat(10) + "1--".repeat(1) + "-".repeat(9) + "1");
        expression("-".repeat(10) + "1*" + "-".repeat(10) + "1");
        expression("(if 1 then 2 else 3)+" + ten);
        expression("(if (1) then (2) else (3))-" + "-".repeat(10) + "1");
        String nine = "(".repeat(9) + "1" + ")".repeat(9);
        expression("if 1 then " + nine + " else " + nine);
        // The - between two of a sum is none of a factor.
        expression("1" + "-1".repeat(30));
        expression("(".repeat(10) + "1-1-1" + ")".repeat(10));
        expression("(".repeat(10) + "1-^-1" + ")".repeat(10));
    }

    // Names

    @Kit.Of(where = "Terms 1", sentence = "Names of symbols are unlike, and those of productions "
            + "(a symbol, a production and attributes may be named alike).")
    static void namesAreUnlike() {
        Kit.fault("symbol a;symbol ^a;p:a={}");
        Kit.fault("symbol a;symbol b;symbol c;symbol ^b;p:a={}");
        Kit.fault(Kit.symbols(11) + "symbol ^aa;");
        Kit.fault("symbol a;p:a={}^p:a={}");
        Kit.fault("symbol a;symbol b;p:a={}q:a={}^p:b={}");
        Kit.fault("symbol a;" + Kit.productions(29, ":a={}") + "^aa:a={}");
        Kit.fine("symbol a up a;symbol b down a up b;a:a=b{0.a=1.b;1.a=2;}b:b={0.b=0.a;}");
    }

    @Kit.Of(where = "Terms 1", sentence = "Names of symbols are unlike, and those of productions "
            + "(a symbol, a production and attributes may be named alike).")
    static void unlikeNamesAreNeverTakenForOneAnother() {
        for (String name : new String[] {"aa", "mn", "zz"}) {
            for (int i = 0; i < 26 * 26; i++) {
                String other = Kit.name(i);
                if (!other.equals(name) && !other.equals("if") && !other.equals("up")) {
                    Kit.fine("symbol " + name + ";symbol " + other + ";p:" + name + "={}");
                    Kit.fault("symbol " + name + ";p:^" + other + "={}");
                }
            }
            Kit.fault("symbol " + name + ";p:^" + name + "a={}");
            Kit.fault("symbol " + name + ";p:^a" + name + "={}");
            Kit.fault("symbol " + name + ";p:^" + name.charAt(0) + "={}");
        }
    }

    @Kit.Of(where = "Terms 1", sentence = "A symbol may have no production.")
    static void aSymbolWithoutProductions() {
        AttributeHouse x = Kit.with("symbol a;symbol b down d up u;p:a=b{1.d=1.u;}q:a={}");
        Kit.is("its level", x.level(1, 0), 2);
        Kit.treeFault(x, "p(^q)");
        Kit.fineTree(x, "q");
        AttributeHouse root = Kit.with("symbol a;symbol b;p:b={}");
        Kit.treeFault(root, "^p");
        Kit.treeFault(root, "^");
    }

    // The fault

    @Kit.Of(where = "Terms 1, the FAULT", sentence = "The FAULT is the first place, going over it, of a token")
    static void theFirstOfSeveralFaults() {
        Kit.fault("symbol ^if symbol a;;p:b={}");
        Kit.fault("symbol a up x;p:a={0.^y=#;}");
        Kit.fault("symbol a up x;p:a={^1.y=#;}");
        Kit.fault("symbol a;symbol b down d;p:a=b{^}p:a={}");
        // The place is that of a token, not of the blanks ahead of it.
        Kit.fault("symbol a  \n ^p:a={}");
        Kit.fault(" \n^p:a={}");
        // A fault is told ahead of circular productions.
        Kit.fault("symbol a;symbol b down y up z;p:b=b{1.y=1.z;0.z=0.y;}^;");
    }

    @Kit.Of(where = "Terms 1, the FAULT", sentence = "(or sign that begins none, name or number that is too long)")
    static void theBeginOfWhatIsTooLong() {
        Kit.fault("symbol a;p:a={}^abcdefghi");
        Kit.fault("symbol a;p:a={}^symbolsymbol");
        Kit.fault("symbol a;p:a={}^1234567");
        Kit.fault("symbol a;p:a={}^ABC");
        expression("1^abcdefghi");
        expression("1 ^1234567");
        expression("if 1 ^thenthenthen 2 else 3");
        expression("^" + "1".repeat(100));
        expression("^" + "a".repeat(100));
    }

    @Kit.Of(where = "Terms 1, the FAULT",
            sentence = "the end being one (its place is the number of all signs)")
    static void theEndIsAToken() {
        String text = "symbol a up x,y;symbol b down d;p:a=#b{0.x=-(1+#)*2<3;0.y=if 1 then 2 else 3;1.d=4;}";
        Kit.fine(text);
        Kit.fine(text + "  \n");
        // The end comes too soon everywhere; but where it cuts a word a name is left, and that can't come there.
        int[] due = new int[text.length()];
        for (int n = 0; n < due.length; n++) {
            due[n] = n;
        }
        for (String word : new String[] {"symbol a", "up", "down", "if", "then", "else"}) {
            int at = text.indexOf(word);
            int letters = word.split(" ")[0].length();
            for (int n = at + 1; n < at + letters; n++) {
                due[n] = at;
            }
        }
        for (int n = 0; n < due.length; n++) {
            Kit.answers(text.substring(0, n), due[n]);
        }
        Kit.fault("^");
        Kit.fault("    ^");
        Kit.fault("symbol a \n ^");
        Kit.fault("symbol a;p:a={  ^");
        Kit.fault("symbol a;p:a={} q:a  ^");
        Kit.fault(RULE + "1 ^");
    }

    @Kit.Of(where = "Terms 1, the FAULT", sentence = "a name that is there already, or that there isn't")
    static void namesThereAndNotThere() {
        Kit.fault("symbol a;symbol ^a;");
        Kit.fault("symbol a up x,^x;");
        Kit.fault("symbol a;p:a={}^p:a={}");
        Kit.fault("symbol a;p:^b={}");
        Kit.fault("symbol a;p:a=^b{}");
        Kit.fault("symbol a;p:a=a a ^b{}");
        Kit.fault("symbol a up x;p:a={0.^b=1;}");
        // A symbol's name is none of a production, and the other way round.
        Kit.fault("symbol a up x;p:^x={}");
        Kit.fault("symbol a;p:^p={}");
    }

    @Kit.Of(where = "Terms 1, the FAULT", sentence = "a thirteenth symbol (its word)")
    static void theWordOfAThirteenthSymbol() {
        Kit.fault(Kit.symbols(12) + " ^symbol am;p:aa={}");
        Kit.fault(Kit.symbols(12) + "^symbol aa;p:aa={}");
        Kit.fault(Kit.symbols(11) + "symbol ^symbol;p:aa={}");
    }

    @Kit.Of(where = "Terms 1, the FAULT", sentence = "a ninth attribute")
    static void theNameOfANinthAttribute() {
        Kit.fault("symbol r up " + Kit.EIGHT + ", ^i;");
        Kit.fault("symbol r up " + Kit.EIGHT + ",^a;");
        Kit.fault("symbol r;symbol s down " + Kit.EIGHT + " up ^i;");
        Kit.fault("symbol r;symbol s down a,b,c,d,e,f,g up h,^i,j;");
        Kit.fault("symbol r up " + Kit.EIGHT + ",^;");
    }

    @Kit.Of(where = "Terms 1, the FAULT", sentence = "a thirty-first production, a fourth symbol of one")
    static void theNamesOfOneTooMany() {
        Kit.fault("symbol a;" + Kit.productions(30, ":a={}") + " ^zz:a={}");
        Kit.fault("symbol a;" + Kit.productions(30, ":a={}") + "^aa");
        Kit.fault("symbol a;p:a=a a a  ^a a{}");
        Kit.fault("symbol a;p:a=a a a ^b{}");
        Kit.fault("symbol a;p:a=#a a a ^a{}");
    }

    @Kit.Of(where = "Terms 1, the FAULT", sentence = "the word down of the root")
    static void theWordDownOfTheRoot() {
        Kit.fault("symbol a  ^down x;p:a={}");
        Kit.fault("symbol a\n^down;");
    }

    @Kit.Of(where = "Terms 1, the FAULT", sentence = "an occurrence that there isn't")
    static void theNumberOfNoOccurrence() {
        for (int right = 0; right <= 3; right++) {
            String head = "symbol a up x;p:a=" + "a ".repeat(right) + "{";
            Kit.fault(head + "^" + (right + 1) + ".x=1;}");
            Kit.fault(head + "0.x=^" + (right + 1) + ".x;}");
            Kit.fine(head + "0.x=" + (right == 0 ? "0" : right + ".x") + ";}");
        }
        Kit.fault("symbol a up x;p:a={^256.x=1;}");
        Kit.fault("symbol a up x;p:a={0.x=^65536.x;}");
    }

    @Kit.Of(where = "Terms 1, the FAULT", sentence = "an attribute that the symbol hasn't, that can't be defined, "
            + "or used, there, or is defined a second time")
    static void attributesThatCannotComeThere() {
        String head = "symbol a up v;symbol b down d up u;";
        Kit.fault(head + "p:b={0.^v=1;}");
        Kit.fault(head + "p:b={0.u=0.^v;}");
        Kit.fault(head + "p:b={0.^d=1;}");
        Kit.fault(head + "p:a=b{1.^u=1;}");
        Kit.fault(head + "p:b={0.u=0.^u;}");
        Kit.fault(head + "p:a=b{0.v=1.^d;}");
        Kit.fault(head + "p:b={0.u=1;0.^u=1;}");
        Kit.fault(head + "p:a=b{1.d=1;1.^d=1;}");
        Kit.fine(head + "p:a=b b{1.d=1;2.d=1;0.v=2;}q:a=b{1.d=1;0.v=2;}");
        Kit.fault("symbol a;p:a={0.^x=1;}");
    }

    @Kit.Of(where = "Terms 1, the FAULT", sentence = "a # without a literal")
    static void theSignWithoutALiteral() {
        expression("1+(2*^#)");
        expression("if ^# then 1 else 2");
        Kit.fine("symbol a up x;p:a=#{0.x=1+(2*#);}");
    }

    @Kit.Of(where = "Terms 1, the FAULT", sentence = "the eleventh if, - or (")
    static void theEleventhInOneAnother() {
        String ten = "(".repeat(10);
        expression(ten + "^if 1 then 2 else 3" + ")".repeat(10));
        expression(ten + "^-1" + ")".repeat(10));
        expression(ten + "^(1)" + ")".repeat(10));
        expression("-".repeat(10) + "^(1)");
        expression("if 1 then 2 else ".repeat(10) + "^-1");
        expression("if 1 then 2 else ".repeat(10) + "^(1)");
        expression("if 1 then 2 else ".repeat(10) + "1-1");
        expression("if 1 then 2 else ".repeat(10) + "1-^-1");
    }

    @Kit.Of(where = "Terms 1, the FAULT", sentence = "the } of a production that lacks a rule.")
    static void theBraceOfWhatLacksARule() {
        Kit.fault("symbol a up x;p:a={  ^}");
        Kit.fault("symbol a up x,y;p:a={0.y=1; ^}q:a={}");
        Kit.fault("symbol a;symbol b down d,e;p:a=b b{1.d=1;1.e=1;2.e=1;^}");
        Kit.fault("symbol a;symbol b down d;p:a=a a b{^}");
        // It lacks none without attributes that it defines.
        Kit.fine("symbol a up x;symbol b down d;p:b=a a a{}");
    }
}
