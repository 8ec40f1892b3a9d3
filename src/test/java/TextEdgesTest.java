import java.util.function.ToIntFunction;

/** The edges of ==== 1 of the Terms: what can stand in a house, a law and a winter, and where the fault is. */
public final class TextEdgesTest {
    private static final int NONE = BottleBefore.NONE;
    private static final int HOUSE = 0;
    private static final int LAW = 1;
    private static final int WINTER = 2;
    private static final String DIGITS = "0123456789";
    private static final String SIX_DRINKS = ";d;d;d;d;d;d";

    public static void main(String[] args) {
        clauses();
        anyOrder();
        items();
        bounds();
        notTold();
        signsOfHouses();
        lawClauses();
        signsOfLaws();
        lawNumbers();
        withinOneAnother();
        heldNumbers();
        worth();
        signsOfWinters();
        winterSteps();
        blanks();
        beginnings();
        Said.close();
    }

    private static int faultOf(int sort, String text) {
        return Due.tape(new BottleBefore(), text).fault(sort);
    }

    private static void fault(int sort, String text, int want) {
        Said.is("fault(" + sort + ") of \"" + text + "\"", faultOf(sort, text), want);
    }

    private static void asked(String text, ToIntFunction<BottleBefore> call, int want) {
        Said.is("what \"" + text + "\" told", call.applyAsInt(Due.house(text)), want);
    }

    /** Behind the text these signs end it well, those are taken but it must go on, and any other is the fault. */
    private static void goesOn(int sort, String text, String whole, String taken) {
        for (char sign = 1; sign < 256; sign++) {
            int want = whole.indexOf(sign) >= 0 ? NONE : taken.indexOf(sign) >= 0 ? text.length() + 1 : text.length();
            fault(sort, text + sign, want);
        }
    }

    // ---- houses

    private static void clauses() {
        Said.said(Said.TERMS, "s (its RULES; one at most)");
        fault(HOUSE, "d;d;g", NONE);
        fault(HOUSE, "d;d;g;s", NONE);
        fault(HOUSE, "s;d;d;g;s", 8);
        Said.said(Said.TERMS, "a second s");
        fault(HOUSE, "s;s", 2);
        fault(HOUSE, "s ; sb1;d;d;g", 4);
        Said.said(Said.TERMS, "d (a DRINK; 2 .. 6)");
        for (int n = 0; n <= 6; n++) {
            String text = "g" + ";d".repeat(n);
            fault(HOUSE, text, n < 2 ? text.length() : NONE);
        }
        asked("d;d;g", x -> x.count(1), 2);
        asked("g" + SIX_DRINKS, x -> x.count(1), 6);
        Said.said(Said.TERMS, "a seventh d or g");
        fault(HOUSE, "g" + SIX_DRINKS + ";d", 14);
        fault(HOUSE, "d;d;g;g;g;g;g;g;g", 16);
        Said.said(Said.TERMS, "g (a GUEST; 1 .. 6)");
        for (int n = 0; n <= 6; n++) {
            fault(HOUSE, "d;d" + ";g".repeat(n), n < 1 ? 3 : NONE);
        }
        asked("d;d;g", x -> x.count(0), 1);
        asked("d;d;g;g;g;g;g;g", x -> x.count(0), 6);
        Said.said(Said.TERMS, "the length, if it ends too early, with fewer than two DRINKS, without a GUEST");
        fault(HOUSE, "", 0);
        fault(HOUSE, "d;g;g", 5);
        fault(HOUSE, "s;g", 3);
        fault(HOUSE, "d;d;s", 5);
        fault(HOUSE, "d;d;g;", 6);
        fault(HOUSE, "d;d;gl", 6);
        // All that can be told is told: what follows the ; is the fault.
        fault(HOUSE, "s" + SIX_DRINKS + ";g;g;g;g;g;g", NONE);
        fault(HOUSE, "s" + SIX_DRINKS + ";g;g;g;g;g;g;d", 26);
        fault(HOUSE, "s" + SIX_DRINKS + ";g;g;g;g;g;g;", 26);
    }

    private static void anyOrder() {
        Said.said(Said.TERMS, "in any order");
        String[] parts = {"sb1w7", "dq1", "dq2", "gl1"};
        for (int a = 0; a < 256; a++) {
            int[] at = {a & 3, a >> 2 & 3, a >> 4 & 3, a >> 6 & 3};
            if ((1 << at[0] | 1 << at[1] | 1 << at[2] | 1 << at[3]) == 15) {
                String text = parts[at[0]] + ";" + parts[at[1]] + ";" + parts[at[2]] + ";" + parts[at[3]];
                asked(text, x -> x.rule(0) * 10 + x.rule(1), 17);
                asked(text, x -> x.drink(0, 0) + x.drink(1, 0), 3);
                asked(text, x -> x.drink(0, 0), text.indexOf("dq1") < text.indexOf("dq2") ? 1 : 2);
                asked(text, x -> x.guest(0, 0), 1);
            }
        }
    }

    private static void items() {
        Said.said(Said.TERMS, "ITEMS, none or more: a letter, each once at most in a CLAUSE, and a number");
        fault(HOUSE, "s;d;d;g", NONE);
        for (String order : new String[] {"b1w2j3", "b1j3w2", "w2b1j3", "w2j3b1", "j3b1w2", "j3w2b1"}) {
            asked("s" + order + ";d;d;g", x -> x.rule(0) * 100 + x.rule(1) * 10 + x.rule(2), 123);
        }
        for (String order : new String[] {"l1m2h3", "l1h3m2", "m2l1h3", "m2h3l1", "h3l1m2", "h3m2l1"}) {
            asked("d;d;g" + order, x -> x.guest(0, 0) * 100 + x.guest(0, 1) * 10 + x.guest(0, 2), 123);
        }
        asked("dq1p2;dp4q3;g", x -> x.drink(0, 0) * 10 + x.drink(0, 1), 12);
        asked("dq1p2;dp4q3;g", x -> x.drink(1, 0) * 10 + x.drink(1, 1), 34);
        Said.said(Said.TERMS, "a letter that was there");
        fault(HOUSE, "sb1b1;d;d;g", 3);
        fault(HOUSE, "sw1b1w1;d;d;g", 5);
        fault(HOUSE, "sj1w1b1j1;d;d;g", 7);
        fault(HOUSE, "dq1q1;d;g", 3);
        fault(HOUSE, "dp10q1p10;d;g", 6);
        fault(HOUSE, "d;d;gl1l1", 7);
        fault(HOUSE, "d;d;gm1m1", 7);
        fault(HOUSE, "d;d;gh1l1m1h1", 11);
        fault(HOUSE, "dq1p1;dq1p1;gl1m1h1;gl1m1h1", NONE);
    }

    private static void bounds() {
        Said.said(Said.TERMS, "b the BOTTLE at first (0 .. 5; 0 without)");
        bound("sb", SIX_DRINKS + ";g", 5, x -> x.rule(0));
        asked("d;d;g;s", x -> x.rule(0), 0);
        asked("d;d;g", x -> x.rule(0), 0);
        Said.said(Said.TERMS, "w WAGES a month (0 .. 30; 5)");
        bound("sw", ";d;d;g", 30, x -> x.rule(1));
        asked("d;d;g;s", x -> x.rule(1), 5);
        asked("d;d;g", x -> x.rule(1), 5);
        Said.said(Said.TERMS, "j by how much more one is glad who likes it (0 .. 9; 3)");
        bound("sj", ";d;d;g", 9, x -> x.rule(2));
        asked("d;d;g;s", x -> x.rule(2), 3);
        asked("d;d;g", x -> x.rule(2), 3);
        Said.said(Said.TERMS, "q QUALITY (0 .. 9; 5)");
        bound("dq", ";d;g", 9, x -> x.drink(0, 0));
        asked("dp1;d;g", x -> x.drink(0, 0), 5);
        Said.said(Said.TERMS, "p PRICE (0 .. 60; 5)");
        bound("dp", ";d;g", 60, x -> x.drink(0, 1));
        asked("dq1;d;g", x -> x.drink(0, 1), 5);
        Said.said(Said.TERMS, "l the DRINK that it LIKES (0 .. 5; 0)");
        bound("gl", SIX_DRINKS, 5, x -> x.guest(0, 0));
        asked("gm1;d;d", x -> x.guest(0, 0), 0);
        Said.said(Said.TERMS, "m MONEY (0 .. 99; 20)");
        bound("gm", ";d;d", 99, x -> x.guest(0, 1));
        asked("gl1;d;d", x -> x.guest(0, 1), 20);
        Said.said(Said.TERMS, "h MOOD (0 .. 9; 5)");
        bound("gh", ";d;d", 9, x -> x.guest(0, 2));
        asked("gm1;d;d", x -> x.guest(0, 2), 5);
    }

    /** "A number out of bounds is wrong at its last digit, a third digit (whatever stands ahead of it) itself." */
    private static void bound(String ahead, String behind, int most, ToIntFunction<BottleBefore> call) {
        int at = ahead.length();
        fault(HOUSE, ahead, at);
        fault(HOUSE, ahead + behind, at);
        for (int v = 0; v <= 99; v++) {
            String two = v < 10 ? "0" + v : "" + v;
            for (String number : v < 10 ? new String[] {"" + v, two} : new String[] {two}) {
                fault(HOUSE, ahead + number + behind, v <= most ? NONE : at + number.length() - 1);
                if (v <= most) {
                    asked(ahead + number + behind, call, v);
                }
            }
            fault(HOUSE, ahead + two + "0" + behind, at + 2);
            fault(HOUSE, ahead + two + "99" + behind, at + 2);
        }
    }

    private static void notTold() {
        Said.said(Said.TERMS, "with a BOTTLE or a DRINK that is LIKED that is not told");
        for (int drinks = 2; drinks <= 6; drinks++) {
            for (int v = 0; v <= 5; v++) {
                String d = ";d".repeat(drinks);
                for (String clauses : new String[] {"sb#;g", "g;sb#", "gl#", "g;gl#", "gl#;g"}) {
                    String text = clauses.replace("#", "" + v) + d;
                    fault(HOUSE, text, v < drinks ? NONE : text.length());
                }
            }
        }
        fault(HOUSE, "sb1;gl1;d;d", NONE);
        fault(HOUSE, "sb2;gl1;d;d", 11);
        fault(HOUSE, "sb1;gl2;d;d", 11);
        fault(HOUSE, "sb2;gl2;d;d  ", 13);
    }

    private static void signsOfHouses() {
        Said.said(Said.TERMS, "the first byte at which no such TEXT can go on");
        goesOn(HOUSE, "", "", "sdg ");
        goesOn(HOUSE, "s", "", "bwj; ");
        goesOn(HOUSE, "d", "", "qp; ");
        goesOn(HOUSE, "g", "", "lmh; ");
        goesOn(HOUSE, "d;", "", "sdg ");
        goesOn(HOUSE, "s;", "", "dg ");
        goesOn(HOUSE, "dq", "", DIGITS + " ");
        goesOn(HOUSE, "dp", "", DIGITS + " ");
        goesOn(HOUSE, "dp1", "", DIGITS + "q; ");
        goesOn(HOUSE, "dp6", "", "0q; ");
        goesOn(HOUSE, "dp11", "", "q; ");
        goesOn(HOUSE, "dp1 ", "", "q; ");
        goesOn(HOUSE, "dq1", "", "p; ");
        goesOn(HOUSE, "dq0", "", DIGITS + "p; ");
        goesOn(HOUSE, "dq1p1", "", DIGITS + "; ");
        goesOn(HOUSE, "dp1;", "", "sdg ");
        goesOn(HOUSE, "dp1;s", "", "bwj; ");
        goesOn(HOUSE, "dp1;d", "", "qp; ");
        goesOn(HOUSE, "dp1;g", "", "lmh; ");
        goesOn(HOUSE, "d;d;g", " ", "lmh;");
        goesOn(HOUSE, "d;d;gm1;g", " ", "lmh;");
        goesOn(HOUSE, "d;d;gl", "01", "2345 ");
        goesOn(HOUSE, "d;d;gl0", "01 ", "2345mh;");
        goesOn(HOUSE, "d;d;gm9", DIGITS + " ", "lh;");
        goesOn(HOUSE, "d;d;gm99", " ", "lh;");
        goesOn(HOUSE, "d;d;g;", "sdg", " ");
        goesOn(HOUSE, "g" + SIX_DRINKS, " ", "qp;");
        goesOn(HOUSE, "g" + SIX_DRINKS + ";", "sg", " ");
        goesOn(HOUSE, "d;d;g;g;g;g;g;g;", "sd", " ");
    }

    // ---- laws

    private static void lawClauses() {
        Said.said(Said.TERMS, "LAWS (4 at most) are TEXTS: CLAUSES with ; between, one at least");
        fault(LAW, "", 0);
        fault(LAW, " ", 1);
        fault(LAW, ";", 0);
        fault(LAW, "y:1", NONE);
        fault(LAW, "y:1;", 4);
        fault(LAW, "y:1;;y:1", 4);
        fault(LAW, "y:1;y:1", NONE);
        String full = "y:1;".repeat(59) + "y:12";
        Said.is("as many bytes as the TAPE can have", full.length(), 240);
        fault(LAW, full, NONE);
        fault(LAW, "y:1;".repeat(60), 240);
        BottleBefore x = new BottleBefore();
        for (int i = 0; i < 5; i++) {
            Said.is("the LAW " + i, Due.tell(x, LAW, "y:" + i), i < 4 ? i : NONE);
            Said.is("how many", x.count(2), Math.min(4, i + 1));
        }
    }

    private static void signsOfLaws() {
        Said.said(Said.TERMS, "y, : , perhaps CONDITION ?, then SUM");
        goesOn(LAW, "", "", "y ");
        goesOn(LAW, "y", "", ": ");
        goesOn(LAW, "y:1;", "", "y ");
        goesOn(LAW, "y:1;y", "", ": ");
        goesOn(LAW, "y:1;y:", "qhlmnp" + DIGITS, "[!( ");
        goesOn(LAW, "y:1=1?1;", "", "y ");
        goesOn(LAW, "y:1=1?1;y:q", " ", "+-*/=<>;");
        goesOn(LAW, "y:1=1?", "qhlmnp" + DIGITS, "[ ");
        goesOn(LAW, "y:1=1?1", DIGITS + " ", "+-*/;");
        goesOn(LAW, "y:(1=1)?", "qhlmnp" + DIGITS, "[ ");
        Said.said(Said.TERMS, "ATOM: a number (1 to 4 digits), a letter (q h l m n p), [ SUM ]");
        goesOn(LAW, "y:", "qhlmnp" + DIGITS, "[!( ");
        goesOn(LAW, "y:[", "", "qhlmnp[ " + DIGITS);
        goesOn(LAW, "y:[1", "]", "+-*/ " + DIGITS);
        goesOn(LAW, "y:[q", "]", "+-*/ ");
        goesOn(LAW, "y:[1]", " ", "+-*/=<>;");
        goesOn(LAW, "y:q", " ", "+-*/=<>;");
        goesOn(LAW, "y:1", DIGITS + " ", "+-*/=<>;");
        goesOn(LAW, "y:1234", " ", "+-*/=<>;");
        // Within [ ] a SUM alone stands, also in a CONDITION that compares already.
        goesOn(LAW, "y:q=[", "", "qhlmnp[ " + DIGITS);
        goesOn(LAW, "y:q=[q", "", "+-*/] ");
        goesOn(LAW, "y:q=[q]", "", "+-*/&|? ");
        goesOn(LAW, "y:(q=[q", "", "+-*/] ");
        goesOn(LAW, "y:(q=[q]", "", "+-*/&|) ");
        goesOn(LAW, "y:([q", "", "+-*/] ");
        goesOn(LAW, "y:([q]", "", "+-*/=<> ");
        goesOn(LAW, "y:![q]", "", "+-*/=<> ");
        goesOn(LAW, "y:q=q&[q", "", "+-*/] ");
        goesOn(LAW, "y:(q=q)|[q]", "", "+-*/=<> ");
        goesOn(LAW, "y:q=q?[q", "]", "+-*/ ");
        goesOn(LAW, "y:q=q?[q]", " ", "+-*/;");
        Said.said(Said.TERMS, "SUM: TERMS with + or - between; TERM: ATOMS with * or / between");
        for (String sign : new String[] {"+", "-", "*", "/"}) {
            goesOn(LAW, "y:1" + sign, "qhlmnp" + DIGITS, "[ ");
            goesOn(LAW, "y:1=1" + sign, "", "qhlmnp[ " + DIGITS);
        }
        Said.said(Said.TERMS, "UNIT: ! UNIT, ( CONDITION ), or SUM, one of = < >, SUM");
        for (String sign : new String[] {"=", "<", ">"}) {
            goesOn(LAW, "y:1" + sign, "", "qhlmnp[ " + DIGITS);
            goesOn(LAW, "y:1" + sign + "q", "", "+-*/&|? ");
            goesOn(LAW, "y:(1" + sign + "q", "", "+-*/&|) ");
        }
        goesOn(LAW, "y:!", "", "qhlmnp[!( " + DIGITS);
        goesOn(LAW, "y:!q", "", "+-*/=<> ");
        goesOn(LAW, "y:!q=q", "", "+-*/&|? ");
        goesOn(LAW, "y:(", "", "qhlmnp[!( " + DIGITS);
        goesOn(LAW, "y:(q", "", "+-*/=<> ");
        goesOn(LAW, "y:(q=q)", "", "&|? ");
        goesOn(LAW, "y:((q=q)", "", "&|) ");
        goesOn(LAW, "y:!(q=q)", "", "&|? ");
        Said.said(Said.TERMS, "CONDITION: TRUTHS with | between; TRUTH: UNITS with & between");
        for (String sign : new String[] {"&", "|"}) {
            goesOn(LAW, "y:q=q" + sign, "", "qhlmnp[!( " + DIGITS);
            goesOn(LAW, "y:q=q" + sign + "q", "", "+-*/=<> ");
            goesOn(LAW, "y:(q=q)" + sign, "", "qhlmnp[!( " + DIGITS);
        }
        Said.said(Said.TERMS, "(A CLAUSE that goes on with ! or ( behind its : has a CONDITION.)");
        fault(LAW, "y:!q=1", 6);
        fault(LAW, "y:!q=1?1", NONE);
        fault(LAW, "y:(q=1)", 7);
        fault(LAW, "y:(q=1)?1", NONE);
        fault(LAW, "y:(q)+1", 4);
        fault(LAW, "y:(q+1)*2=4?1", 6);
    }

    private static void lawNumbers() {
        Said.said(Said.TERMS, "a number (1 to 4 digits)");
        for (String number : new String[] {"0", "9", "00", "99", "000", "999", "0000", "9999"}) {
            fault(LAW, "y:" + number, NONE);
            fault(LAW, "y:" + number + "=" + number + "?" + number, NONE);
        }
        Said.said(Said.TERMS, "a fifth one in a LAW");
        for (String number : new String[] {"00000", "00001", "99999", "123456"}) {
            fault(LAW, "y:" + number, 6);
            fault(LAW, "y:1=" + number + "?1", 8);
            fault(LAW, "y:1=1?" + number + ";", 10);
            fault(LAW, "y:[" + number + "]", 7);
        }
        fault(LAW, "y:1234 5", 7);
    }

    /** Six signs open, those of conditions ahead of those of sums, and then closed; each choice of ( and !. */
    private static void withinOneAnother() {
        Said.said(Said.TERMS, "At most six of ( [ ! within one another.");
        for (int ofCondition = 0; ofCondition <= 6; ofCondition++) {
            for (int choice = 0; choice < 1 << ofCondition; choice++) {
                fault(LAW, nested(ofCondition, choice, 6 - ofCondition), NONE);
            }
        }
        fault(LAW, "y:[[[[[[q]]]]]]+[[[[[[q]]]]]]=[[[[[[q]]]]]]?[[[[[[q]]]]]];y:[[[[[[q]]]]]]", NONE);
        fault(LAW, "y:!!!!!!q=q&!!!!!!q=q|((((((q=q))))))&!!!([[q]]=q)?1", NONE);
        Said.said(Said.TERMS, "a seventh of ( [ ! in a LAW at it");
        for (int ofCondition = 0; ofCondition <= 6; ofCondition++) {
            for (int choice = 0; choice < 1 << ofCondition; choice++) {
                fault(LAW, nested(ofCondition, choice, 7 - ofCondition), 8);
            }
        }
        for (int choice = 0; choice < 128; choice++) {
            fault(LAW, nested(7, choice, 0), 8);
        }
        // A ! goes on to the end of its UNIT, no farther.
        fault(LAW, "y:!!!!!!q=[q]?1", 10);
        fault(LAW, "y:!!!!!!q=q&[q]=q?1", NONE);
        fault(LAW, "y:!!!!!!q=q?[[[[[[q]]]]]]", NONE);
        fault(LAW, "y:(!!!!!q=q&!!!!!q=q)?1", NONE);
        fault(LAW, "y:(!!!!!q=q&!!!!!!q=q)?1", 17);
    }

    private static String nested(int ofCondition, int choice, int ofSum) {
        StringBuilder ahead = new StringBuilder("y:");
        StringBuilder behind = new StringBuilder();
        for (int i = 0; i < ofCondition; i++) {
            boolean bracket = (choice >> i & 1) == 1;
            ahead.append(bracket ? '(' : '!');
            behind.append(bracket ? ")" : "");
        }
        ahead.append("[".repeat(ofSum)).append('q').append("]".repeat(ofSum));
        return ofCondition == 0 ? ahead.toString() : ahead.append("=1").append(behind).append("?1").toString();
    }

    /** Whether the condition holds for one who got 9 at 7 and likes it, MOOD 6 then, MONEY 50, no VISITS ahead. */
    private static void holds(String condition, boolean want) {
        BottleBefore x = Due.holding(Due.house("sj3;dq0p0;dq9p7;gl1m50h5"), "y:" + condition + "?9");
        Said.is("whether " + condition, x.makes(0, 1) == 1, want);
    }

    private static void heldNumbers() {
        Said.said(Said.TERMS, "Behind each sign numbers are within -1,000,000 .. 1,000,000");
        holds("1000*1000-1=9999*100+99", true);
        holds("1000*1000-1=999*1000+999", true);
        holds("1000*1000>999*1000+999", true);
        holds("1000*1000=999*1000+1000", true);
        holds("1000*1000=999*1000+1001", true);
        holds("1000*1001=1000*1000", true);
        holds("9999*9999=1000*1000", true);
        holds("1000*1000+1-1=999*1000+999", true);
        holds("0-999*1000-999>0-1000*1000", true);
        holds("0-999*1000-1000=0-1000*1000", true);
        holds("0-999*1000-1001=0-1000*1000", true);
        holds("[0-1000]*1001=0-1000*1000", true);
        holds("[0-9999]*9999=[0-1]*1000*1000", true);
        holds("[0-9999]*[0-9999]=1000*1000", true);
        holds("0-1000*1000-1+1=0-999*1000-999", true);
        holds("9999*9999*9999/9999=100", true);
        holds("9999*9999*0=0", true);
        Said.said(Said.TERMS, "/ cuts towards 0, by 0 gives 0");
        holds("7/2=3", true);
        holds("8/2=4", true);
        holds("1/2=0", true);
        holds("[0-1]/2=0", true);
        holds("[0-7]/2=0-3", true);
        holds("[0-8]/2=0-4", true);
        holds("7/[0-2]=0-3", true);
        holds("[0-7]/[0-2]=3", true);
        holds("7/0=0", true);
        holds("0/0=0", true);
        holds("[0-7]/0=0", true);
        holds("7/[q-9]=0", true);
        holds("7/n+1=1", true);
        holds("9999*9999/[0-1]=0-1000*1000", true);
    }

    private static void worth() {
        Said.said(Said.TERMS, "the SUM of the first CLAUSE whose CONDITION holds (or has none), 0 without");
        String[] laws = {"y:q=9?4;y:q=9?9;y:9", "y:q=8?9;y:4;y:9", "y:q=8?9;y:q=9?4", "y:4"};
        for (String law : laws) {
            Said.is(law, Due.holding(Due.house("dq0p0;dq9p0;dq4p0;g"), law).makes(0, 1), 2);
        }
        Said.is("none holds", Due.holding(Due.house("dq0p0;dq9p0;dq4p0;g"), "y:q=8?9;y:q=7?4").makes(0, 1), 0);
        StringBuilder many = new StringBuilder();
        for (int i = 0; i < 26; i++) {
            many.append("y:n=").append(i).append("?9;");
        }
        String last = many.append("y:4").toString();
        Said.is("the last of many", Due.holding(Due.house("dq0p0;dq9p0;dq4p0;g"), last).makes(0, 1), 1);
        Said.is("the last of many", Due.holding(Due.house("dq0p0;dq9p0;dq4p0;g"),
                last.replace("n=0?", "n>0?")).makes(0, 1), 2);
    }

    // ---- winters

    private static void signsOfWinters() {
        Said.said(Said.TERMS, "g and a digit (a GUEST VISITS), m (a MONTH), h and a digit (the HOST puts a DRINK)");
        goesOn(WINTER, "", "m", "gh ");
        goesOn(WINTER, "g", DIGITS, " ");
        goesOn(WINTER, "h", DIGITS, " ");
        goesOn(WINTER, "m", " ", ";");
        goesOn(WINTER, "g0", " ", ";");
        goesOn(WINTER, "h9", " ", ";");
        goesOn(WINTER, "m;", "m", "gh ");
        goesOn(WINTER, "g1 ", " ", ";");
    }

    private static void winterSteps() {
        Said.said(Said.TERMS, "WINTERS (4 at most) are TEXTS: STEPS with ; between, 1 to 16");
        fault(WINTER, "", 0);
        for (String step : new String[] {"m", "g9", "h0"}) {
            for (int n = 1; n <= 16; n++) {
                String text = (step + ";").repeat(n - 1) + step;
                fault(WINTER, text, NONE);
                BottleBefore x = new BottleBefore();
                Due.tell(x, WINTER, text);
                Said.is("the last STEP of " + n, x.step(0, n - 1, 0), "gmh".indexOf(step.charAt(0)));
                Said.is("no STEP behind " + n, x.step(0, n, 0), BottleBefore.HIDDEN);
            }
        }
        BottleBefore y = new BottleBefore();
        for (int i = 0; i < 5; i++) {
            Said.is("the WINTER " + i, Due.tell(y, WINTER, "g" + i), i < 4 ? i : NONE);
            Said.is("how many", y.count(3), Math.min(4, i + 1));
        }
        Said.said(Said.TERMS, "the ; ahead of a 17th STEP");
        for (String step : new String[] {"m", "g9", "h0"}) {
            String sixteen = (step + ";").repeat(15) + step;
            fault(WINTER, sixteen + ";" + step, sixteen.length());
            fault(WINTER, sixteen + ";", sixteen.length());
            fault(WINTER, sixteen + "  ; " + step, sixteen.length() + 2);
            goesOn(WINTER, sixteen, " ", "");
        }
        Said.said(Said.TERMS, "(A GUEST, a DRINK of a STEP that is not there is no FAULT: the STEP can't be.)");
        for (int digit = 0; digit <= 9; digit++) {
            BottleBefore x = Due.house("sb1;d;d;d;g;g");
            Said.is("text(2) of g" + digit, Due.tell(x, WINTER, "g" + digit), 0);
            Said.is("text(2) of h" + digit, Due.tell(x, WINTER, "h" + digit), 1);
            Said.is("its digit", x.step(0, 0, 1) * 10 + x.step(1, 0, 1), digit * 11);
            Said.is("run(0, 0) of g" + digit, x.run(0, 0), digit < 2 ? NONE : 0);
            Said.is("run(1, 0) of h" + digit, x.run(1, 0), digit < 3 && digit != 1 ? NONE : 0);
            Said.is("perform(1) of h" + digit, x.perform(1), digit < 3 && digit != 1 ? 1 : 0);
            Said.is("perform(0) of g" + digit, x.perform(0), digit < 2 ? 1 : 0);
            Said.is("VISITS", x.count(6), digit < 2 ? 1 : 0);
            Said.is("no MONTH", x.count(7), 0);
        }
    }

    // ---- all of them

    /** A blank at each place of the text, once and twice; at these places it parts a number, so the digit is wrong. */
    private static void blanksIn(int sort, String text, int... parted) {
        fault(sort, text, NONE);
        StringBuilder spread = new StringBuilder(" ");
        for (int at = 0; at <= text.length(); at++) {
            boolean parts = false;
            for (int p : parted) {
                parts |= p == at;
            }
            fault(sort, text.substring(0, at) + " " + text.substring(at), parts ? at + 1 : NONE);
            fault(sort, text.substring(0, at) + "  " + text.substring(at), parts ? at + 2 : NONE);
            for (char other : new char[] {9, 10, 13, 31, 95, 160, 255}) {
                fault(sort, text.substring(0, at) + other + text.substring(at), at);
            }
            if (at < text.length()) {
                spread.append(parts ? "" : "   ").append(text.charAt(at));
            }
        }
        fault(sort, spread.append("  ").toString(), NONE);
    }

    private static void blanks() {
        Said.said(Said.TERMS, "Blanks (32) may stand between all signs of these, not within numbers.");
        blanksIn(HOUSE, "sb1w12j3;dq1p60;d;gl1m99h9", 5, 14, 23);
        blanksIn(LAW, "y:!(q+12>3|h<4)&l=[m-n/20]?1234*p;y:0", 7, 24, 28, 29, 30);
        blanksIn(WINTER, "g1;m;h2");
    }

    /** Of each beginning the fault is its length, but for those that are whole. */
    private static void beginningsOf(int sort, String text, int... whole) {
        BottleBefore x = Due.tape(new BottleBefore(), text);
        for (int n = text.length(); n >= 0; n--) {
            int want = n;
            for (int w : whole) {
                want = w == n ? NONE : want;
            }
            Said.is("end(" + n + ")", x.end(n), true);
            Said.is("fault(" + sort + ") of \"" + text.substring(0, n) + "\"", x.fault(sort), want);
        }
    }

    private static void beginnings() {
        Said.said(Said.TERMS, "the length, if it ends too early");
        beginningsOf(HOUSE, "sb1w12;dq1p60;d;gl1m99h9", 17, 19, 21, 22, 24);
        beginningsOf(HOUSE, "d;g;d;gl2;d", 5, 7, 11);
        beginningsOf(LAW, "y:!(q+12>3)&l=[m]?12;y:q+1>2?[q]", 19, 20, 24, 26, 32);
        beginningsOf(WINTER, "g1;m;h2;m", 2, 4, 7, 9);
    }
}
