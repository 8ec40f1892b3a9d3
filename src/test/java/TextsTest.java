/** Promises 1 to 5, 9, 10, 19: a new object, the tape, the texts, their faults, and what laws are worth. */
public final class TextsTest {
    private static final int NONE = BottleBefore.NONE;
    private static final int HIDDEN = BottleBefore.HIDDEN;

    public static void main(String[] args) {
        newObject();
        tape();
        houseFaults();
        lawFaults();
        winterFaults();
        texts();
        newHouse();
        lawsWorth();
        lawsHolding();
        snow();
        steps();
        Due.close();
    }

    private static void newObject() {
        BottleBefore x = new BottleBefore();
        int[] counts = {0, 0, 0, 0, 0, NONE, 0, 0, 0, 2, 0, 0, 0, 0};
        for (int i = 0; i < counts.length; i++) {
            Due.due(1, "count(" + i + ")", x.count(i), counts[i]);
        }
        Due.due(1, "rule(0)", x.rule(0), NONE);
        Due.due(1, "image()", x.image(), NONE);
        Due.due(1, "back()", x.back(), NONE);
        Due.due(1, "ends(0)", x.ends(0), NONE);
    }

    private static void tape() {
        BottleBefore x = new BottleBefore();
        Due.due(2, "feed, zeros left out", x.feed(0x64003B64, 0, 0x3B, 0, 0x67000000), 5);
        Due.due(2, "fault(0) of d;d;g", x.fault(0), NONE);
        Due.due(2, "feed, nothing", x.feed(0, 0, 0, 0, 0), 5);
        Due.due(2, "feed, bytes above 127", x.feed(-1, -1, -1, -1, -1), 25);
        Due.due(4, "fault(0) at a byte of 255", x.fault(0), 5);
        x.end(0);
        for (int i = 1; i <= 12; i++) {
            Due.due(2, "feed " + i, x.feed(0x20202020, 0x20202020, 0x20202020, 0x20202020, 0x20202020), 20 * i);
        }
        Due.due(2, "feed, the 241st", x.feed(0, 0, 0, 0, 1), NONE);
        Due.due(2, "feed, nothing, full", x.feed(0, 0, 0, 0, 0), 240);
        Due.due(3, "end(241)", x.end(241), false);
        Due.due(3, "end(240)", x.end(240), true);
        Due.due(3, "end(-1)", x.end(-1), false);
        Due.due(3, "end(least)", x.end(Integer.MIN_VALUE), false);
        Due.due(3, "end(239)", x.end(239), true);
        Due.due(2, "feed, two beyond 239", x.feed(0x2020, 0, 0, 0, 0), NONE);
        Due.due(2, "count(4) behind that", x.count(4), 239);
        Due.due(2, "feed, one beyond 239", x.feed(0x20, 0, 0, 0, 0), 240);
        Due.due(3, "end(0)", x.end(0), true);
        Due.due(3, "end(1)", x.end(1), false);
        Due.due(3, "count(4)", x.count(4), 0);
    }

    private static void fault(int sort, String text, int want) {
        BottleBefore x = Due.tape(new BottleBefore(), text);
        Due.due(4, "fault(" + sort + ") of \"" + text + "\"", x.fault(sort), want);
        Due.due(4, "count(4) behind it", x.count(4), text.length());
    }

    private static void houseFaults() {
        fault(0, "d;d;g", NONE);
        fault(0, "g;d;s;d", NONE);
        fault(0, "  d ; d q 9 p 60 ; g l 1 m 99 h 9 ; s b 1 w 30 j 9  ", NONE);
        fault(0, "dq00p05;d;gl01", NONE);
        fault(0, "", 0);
        fault(0, "   ", 3);
        fault(0, ";", 0);
        fault(0, "D", 0);
        fault(0, "d;d", 3);
        fault(0, "d;d;", 4);
        fault(0, "d;d; ", 5);
        fault(0, "g;d", 3);
        fault(0, "s;d;g", 5);
        fault(0, "d;d;g;;", 6);
        fault(0, "d d;g", 2);
        fault(0, "dq;d", 2);
        fault(0, "dq", 2);
        fault(0, "dqp1", 2);
        fault(0, "dq10", 3);
        fault(0, "dq1 0", 4);
        fault(0, "dq99", 3);
        fault(0, "dq100", 4);
        fault(0, "dq999;", 4);
        fault(0, "dq000;", 4);
        fault(0, "d1", 1);
        fault(0, "dp61;d", 3);
        fault(0, "dp60;d;g", NONE);
        fault(0, "dp5p5", 3);
        fault(0, "dq5p5q5", 5);
        fault(0, "dm5", 1);
        fault(0, "gl5", 3);
        fault(0, "gl5;sb5;d;d;d;d;d;d", NONE);
        fault(0, "gl5;d;d;d;d;d", 13);
        fault(0, "gl6", 2);
        fault(0, "gl66", 3);
        fault(0, "gl666", 4);
        fault(0, "gm100", 4);
        fault(0, "gh10", 3);
        fault(0, "gq1", 1);
        fault(0, "sb6", 2);
        fault(0, "sw31", 3);
        fault(0, "sj10", 3);
        fault(0, "sb1b1", 3);
        fault(0, "s;d;s", 4);
        fault(0, "d;d;g;sb2", 9);
        fault(0, "sb2;d;d;g", 9);
        fault(0, "sb2;d;d;g;d", NONE);
        fault(0, "gl2;d;d", 7);
        fault(0, "gl2;d;d;d", NONE);
        fault(0, "d;d;d;d;d;d;g", NONE);
        fault(0, "d;d;d;d;d;d;d", 12);
        fault(0, "g;g;g;g;g;g;d;d", NONE);
        fault(0, "g;g;g;g;g;g;g", 12);
        fault(0, "d;d;g" + (char) 9, 5);
    }

    private static void lawFaults() {
        fault(1, "y:1", NONE);
        fault(1, " y : q + 12 * [ h - 1 ] / n ; y : l ", NONE);
        fault(1, "y:q>1?2", NONE);
        fault(1, "y:!(q>1&h<2|l=1)&[m]>p?n;y:0", NONE);
        fault(1, "", 0);
        fault(1, "y", 1);
        fault(1, "y:", 2);
        fault(1, "yq", 1);
        fault(1, "q:1", 0);
        fault(1, "y:1;", 4);
        fault(1, "y:1;1", 4);
        fault(1, "y:x", 2);
        fault(1, "y:-1", 2);
        fault(1, "y:1+", 4);
        fault(1, "y:1+*", 4);
        fault(1, "y:1q", 3);
        fault(1, "y:q1", 3);
        fault(1, "y:1 1", 4);
        fault(1, "y:9999", NONE);
        fault(1, "y:00000", 6);
        fault(1, "y:12345", 6);
        fault(1, "y:1?2", 3);
        fault(1, "y:1&2", 3);
        fault(1, "y:1)", 3);
        fault(1, "y:1]", 3);
        fault(1, "y:[1", 4);
        fault(1, "y:[1)", 4);
        fault(1, "y:[1>2]", 4);
        fault(1, "y:[1;", 4);
        fault(1, "y:[!1]", 3);
        fault(1, "y:[(1)]", 3);
        fault(1, "y:[]", 3);
        fault(1, "y:[1]2", 5);
        fault(1, "y:[1][2]", 5);
        fault(1, "y:q>1", 5);
        fault(1, "y:q>1;", 5);
        fault(1, "y:q>1>2", 5);
        fault(1, "y:q>=1", 4);
        fault(1, "y:q>1?", 6);
        fault(1, "y:q>1?1>2", 7);
        fault(1, "y:q>1?1?2", 7);
        fault(1, "y:q>1?(1)", 6);
        fault(1, "y:q>1?!1", 6);
        fault(1, "y:q>1?[1]+2", NONE);
        fault(1, "y:q>!1", 4);
        fault(1, "y:q+!1", 4);
        fault(1, "y:q>1&!h<2?3", NONE);
        fault(1, "y:q>1&h?3", 7);
        fault(1, "y:(q)", 4);
        fault(1, "y:(q>1)", 7);
        fault(1, "y:(q>1)+1", 7);
        fault(1, "y:(q>1)>1", 7);
        fault(1, "y:(q>1)]", 7);
        fault(1, "y:(q>1);", 7);
        fault(1, "y:(q>1))", 7);
        fault(1, "y:(q>1?", 6);
        fault(1, "y:(q>1)?1", NONE);
        fault(1, "y:()", 3);
        fault(1, "y:!q", 4);
        fault(1, "y:!q?", 4);
        fault(1, "y:!q;", 4);
        fault(1, "y:[[[[[[q]]]]]]", NONE);
        fault(1, "y:[[[[[[[q]]]]]]]", 8);
        fault(1, "y:((((((q>1))))))?1", NONE);
        fault(1, "y:(((((((q>1)))))))?1", 8);
        fault(1, "y:!!!!!!q>1?1", NONE);
        fault(1, "y:!!!!!!q>[1]?1", 10);
        fault(1, "y:!(!(![q]>[1]))&!q=1?[[[[[[1]]]]]]", NONE);
        fault(1, "y:!(!(![[q]]>1))?1", 8);
        fault(1, "y:!q=1&!q=1&!q=1&!q=1&!q=1&!q=1&!q=1?1", NONE);
        fault(1, "y:[q]+[q]+[q]+[q]+[q]+[q]+[q]+[q]", NONE);
    }

    private static void winterFaults() {
        fault(2, "g0", NONE);
        fault(2, "m", NONE);
        fault(2, " g 9 ; m ; h 0 ", NONE);
        fault(2, "", 0);
        fault(2, "  ", 2);
        fault(2, "g", 1);
        fault(2, "gm", 1);
        fault(2, "h9;", 3);
        fault(2, "g12", 2);
        fault(2, "g1 2", 3);
        fault(2, "m1", 1);
        fault(2, "m;;m", 2);
        fault(2, "d1", 0);
        fault(2, "mm", 1);
        fault(2, "m;m;m;m;m;m;m;m;m;m;m;m;m;m;m;m", NONE);
        fault(2, "m;m;m;m;m;m;m;m;m;m;m;m;m;m;m;m;", 31);
        fault(2, "m;m;m;m;m;m;m;m;m;m;m;m;m;m;m;m ;m", 32);
        fault(2, "m;m;m;m;m;m;m;m;m;m;m;m;m;m;m;mm", 31);
        BottleBefore x = Due.tape(new BottleBefore(), "m");
        Due.due(4, "fault(3)", x.fault(3), -2);
        Due.due(4, "fault(-1)", x.fault(-1), -2);
        Due.due(4, "fault(0)", x.fault(0), 0);
    }

    private static void texts() {
        BottleBefore x = new BottleBefore();
        Due.due(5, "text(0)", Due.tell(x, 0, "d;d;d;g;g"), 2);
        Due.due(5, "count(4)", x.count(4), 0);
        Due.due(5, "text(0) of nothing", x.text(0), NONE);
        Due.due(5, "text(0) of a winter", Due.tell(x, 0, "m"), NONE);
        Due.due(5, "text(3)", x.text(3), NONE);
        Due.due(5, "text(-1)", x.text(-1), NONE);
        Due.due(5, "count(4), as refused", x.count(4), 1);
        Due.due(5, "count(0), as refused", x.count(0), 2);
        for (int i = 0; i < 4; i++) {
            Due.due(5, "text(1)", Due.tell(x, 1, "y:" + i), i);
            Due.due(5, "text(2)", Due.tell(x, 2, "g" + i), i);
            Due.due(43, "count(2)", x.count(2), i + 1);
            Due.due(43, "count(3)", x.count(3), i + 1);
        }
        Due.due(5, "a fifth law", Due.tell(x, 1, "y:1"), NONE);
        Due.due(5, "count(4), as refused", x.count(4), 3);
        Due.due(5, "a fifth winter", Due.tell(x, 2, "m"), NONE);
        Due.due(5, "count(4), as refused", x.count(4), 1);
        Due.due(43, "count(2)", x.count(2), 4);
        Due.due(43, "count(3)", x.count(3), 4);
    }

    private static void newHouse() {
        BottleBefore x = Due.house("dq9p1;dq3p2;g;g");
        Due.holding(x, "y:9");
        Due.tell(x, 2, "g0");
        x.snow(7);
        x.visit(0);
        x.host(1);
        x.month();
        x.host(1);
        x.seen(0, 0, 5, 0);
        x.image();
        x.pay(1, 5);
        Due.due(5, "text(0), another one", Due.tell(x, 0, "sb1;d;dq7;gm1"), 1);
        int[] counts = {1, 2, 1, 1, 0, 0, 0, 0, 0, 7, 0, 0, 0, 0};
        for (int i = 0; i < counts.length; i++) {
            Due.due(5, "count(" + i + ") of another house", x.count(i), counts[i]);
        }
        Due.due(5, "rule(0) of another house", x.rule(0), 1);
        Due.due(5, "guest(0, 1) of another house", x.guest(0, 1), 1);
        Due.due(5, "drink(0, 0) of another house", x.drink(0, 0), 5);
        Due.due(5, "drink(0, 1) of another house", x.drink(0, 1), 5);
        Due.due(42, "back(), no image of this house", x.back(), NONE);
        Due.due(17, "undo(), nothing of this house", x.undo(), NONE);
        Due.due(18, "book(0, 0), nothing of this house", x.book(0, 0), HIDDEN);
    }

    /** The drink brought has QUALITY 9, if the condition holds. */
    private static void holds(String condition, boolean want) {
        BottleBefore x = Due.house("sj3;dq0p0;dq9p7;dq4p3;gl1m50h5");
        Due.holding(x, "y:" + condition + "?9");
        Due.due(9, condition, x.makes(0, 1) == 1, want);
    }

    private static void lawsWorth() {
        holds("2+3*4=14", true);
        holds("10-2-3=5", true);
        holds("100/10/5=2", true);
        holds("7/2*2=6", true);
        holds("[0-7]/2=0-3", true);
        holds("[0-7]/2<0-3", false);
        holds("5/0=0", true);
        holds("[1+2]*[3+4]=21", true);
        holds("9999*9999=1000*1000", true);
        holds("9999*9999/1000=1000", true);
        holds("[0-9999*9999]+1=1-1000*1000", true);
        holds("9999*9999+1-1=1000*1000-1", true);
        holds("0-9999*9999-1+1=1-1000*1000", true);
        holds("[0-9999]*9999=0-1000*1000", true);
        holds("9999*100=9999*10*10", true);
        holds("007=7", true);
        holds("q=9&h=6&l=1&m=50&n=0&p=7", true);
        holds("q<9", false);
        holds("q>9", false);
        holds("q=9|q=1&q=2", true);
        holds("(q=9|q=1)&q=2", false);
        holds("q=1&q=2|q=9", true);
        holds("!q=9", false);
        holds("!q=1&q=1", false);
        holds("!(q=1&q=1)", true);
        holds("!q=1|q=9", true);
        holds("!!q=9", true);
        holds("!q+1=q", true);
        holds("[q-h]*2=q-3", true);

        BottleBefore x = Due.holding(Due.house("sj3;dq0p0;dq9p7;dq4p3;gl1m50h5"), "y:q=0?9;y:q=4&h=5&l=0&p=3?4");
        Due.due(9, "the first clause", x.makes(0, 0), 1);
        Due.due(9, "the second clause, MOOD as it was", x.makes(0, 2), 2);
        Due.due(9, "no clause", x.makes(0, 1), 0);
        Due.holding(x, "y:q=0?9;y:4;y:9");
        Due.due(9, "a clause without condition", x.makes(0, 1), 2);
        Due.holding(x, "y:n*9");
        Due.due(9, "no visit ahead", x.makes(0, 0), 0);
        x.visit(0);
        Due.due(9, "one visit ahead", x.makes(0, 0), 1);
    }

    private static void lawsHolding() {
        BottleBefore x = Due.house("dq0p0;dq9p0;g");
        Due.due(9, "law(0), none told", x.law(0), false);
        Due.due(9, "law(NONE)", x.law(NONE), true);
        Due.due(9, "law(-2)", x.law(-2), false);
        Due.tell(x, 1, "y:999");
        Due.due(9, "none holds yet", x.makes(0, 0), 0);
        Due.due(9, "law(1)", x.law(1), false);
        Due.due(9, "law(0)", x.law(0), true);
        Due.due(9, "law(0) again", x.law(0), true);
        Due.due(43, "count(5)", x.count(5), 0);
        Due.due(9, "held to 9", x.makes(0, 0), 1);
        Due.tell(x, 1, "y:0-5");
        Due.due(9, "the one that holds stays", x.count(5), 0);
        Due.due(9, "law(1)", x.law(1), true);
        Due.due(9, "held to 0", x.makes(0, 1), 0);
        Due.due(9, "law(2)", x.law(2), false);
        Due.due(9, "count(5), as refused", x.count(5), 1);
        Due.due(9, "law(NONE)", x.law(NONE), true);
        Due.due(43, "count(5)", x.count(5), NONE);
        BottleBefore y = new BottleBefore();
        Due.tell(y, 1, "y:1");
        Due.due(9, "law(0) without a house", y.law(0), true);
    }

    private static void snow() {
        BottleBefore x = new BottleBefore();
        Due.due(10, "snow(2), it is so", x.snow(2), false);
        Due.due(10, "snow(10)", x.snow(10), false);
        Due.due(10, "snow(-1)", x.snow(-1), false);
        Due.due(43, "count(9)", x.count(9), 2);
        Due.due(10, "snow(9)", x.snow(9), true);
        Due.due(10, "snow(9) again", x.snow(9), false);
        Due.due(10, "snow(0)", x.snow(0), true);
        Due.due(43, "count(9)", x.count(9), 0);
    }

    private static void steps() {
        BottleBefore x = new BottleBefore();
        Due.tell(x, 2, "g9;m;h0");
        int[][] want = {{0, 9}, {1, NONE}, {2, 0}};
        for (int i = 0; i < 3; i++) {
            Due.due(19, "step(0, " + i + ", 0)", x.step(0, i, 0), want[i][0]);
            Due.due(19, "step(0, " + i + ", 1)", x.step(0, i, 1), want[i][1]);
        }
        Due.due(19, "step(0, 3, 0)", x.step(0, 3, 0), HIDDEN);
        Due.due(19, "step(0, -1, 0)", x.step(0, -1, 0), HIDDEN);
        Due.due(19, "step(1, 0, 0)", x.step(1, 0, 0), HIDDEN);
        Due.due(19, "step(-1, 0, 0)", x.step(-1, 0, 0), HIDDEN);
        Due.due(19, "step(0, 0, 2)", x.step(0, 0, 2), HIDDEN);
        Due.due(19, "step(0, 0, -1)", x.step(0, 0, -1), HIDDEN);
    }
}
