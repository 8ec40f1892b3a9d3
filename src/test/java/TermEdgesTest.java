import java.math.BigInteger;

/** The edges of ==== 2 to ==== 4 of the Terms, and of what the promises say beside their refusals. */
public final class TermEdgesTest {
    private static final int NONE = BottleBefore.NONE;
    private static final int HIDDEN = BottleBefore.HIDDEN;
    private static final int TERMS = Said.TERMS;
    /** Each guest (5 to 0) likes the drink of its number and brings the one below it; the bottle is 5 at first. */
    private static final String CHAIN = "sb5j9w0;dq0p0;dq1p0;dq2p0;dq3p0;dq4p0;dq5p0"
            + ";gl0m10;gl1m11;gl2m12;gl3m13;gl4m14;gl5m15";
    private static final String SIX_ALIKE = "d;d;g;g;g;g;g;g";

    public static void main(String[] args) {
        tape();
        fullHouse();
        joyAndMood();
        wishes();
        pays();
        nearest();
        book();
        months();
        wages();
        hosts();
        paid();
        prices();
        undone();
        undoneBook();
        runs();
        bests();
        soonests();
        rowsByHand();
        rounds();
        seen();
        fits();
        serves();
        who();
        games();
        dealt();
        odds();
        leastAndMost();
        byTheBook();
        saves();
        years();
        yearsAndMonths();
        images();
        otherHouses();
        manyCalls();
        Said.close();
    }

    private static BottleBefore chain() {
        return Due.holding(Due.house(CHAIN), "y:m-11");
    }

    // ---- the tape

    private static void tape() {
        Said.said(1, "No HOUSE.");
        BottleBefore x = new BottleBefore();
        int[] counts = {0, 0, 0, 0, 0, NONE, 0, 0, 0, 2, 0, 0, 0, 0};
        for (int i = 0; i < counts.length; i++) {
            Said.is("count(" + i + ")", x.count(i), counts[i]);
        }
        Said.said(2, "of each number the highest first; bytes of 0 are left out");
        Said.is("feed of g0;m;h1 among zeros", x.feed(0x67003000, 0x003B6D00, 0, 0x3B006800, 0x31), 7);
        int[] want = {0, 1, NONE, 3, NONE, 5, 6, NONE};
        for (int n = 7; n >= 0; n--) {
            x.end(n);
            Said.is("fault(2) of the first " + n, x.fault(2), want[n]);
        }
        Said.said(3, "The TAPE has its first n bytes alone.");
        Due.tape(x, "g1;m;h2");
        Said.is("end(4)", x.end(4), true);
        Said.is("text(2)", x.text(2), 0);
        Said.is("two STEPS alone", x.step(0, 1, 0), 1);
        Said.is("two STEPS alone", x.step(0, 2, 0), HIDDEN);
        Said.said(5, "The TAPE (empty then)");
        Said.is("count(4)", x.count(4), 0);
        cutNumbers();
    }

    /** What stood behind the end is no more of a number that ends there. */
    private static void cutNumbers() {
        Said.said(3, "The TAPE has its first n bytes alone.");
        BottleBefore x = Due.tape(new BottleBefore(), "d;d;gm98");
        x.end(7);
        Said.is("text(0) of d;d;gm9", x.text(0), 1);
        Said.is("MONEY", x.guest(0, 1), 9);
        Due.tape(x, "d;d;gl61").end(7);
        Said.is("fault(0) of d;d;gl6", x.fault(0), 6);
        Due.tape(x, "d;d;gl111").end(8);
        Said.is("fault(0) of d;d;gl11", x.fault(0), 7);
        Due.tape(x, "y:12345").end(6);
        Said.is("fault(1) of y:1234", x.fault(1), NONE);
        Due.tape(x, "d;d;gm99" + "9".repeat(232)).end(8);
        Said.is("fault(0) of d;d;gm99", x.fault(0), NONE);
        Due.tape(x, "d;d;gm7" + " ".repeat(233));
        Said.is("text(0) of 240", x.text(0), 1);
        Said.is("MONEY", x.guest(0, 1), 7);
        Due.tape(x, " ".repeat(233) + "d;d;gm8");
        Said.is("text(0) of 240", x.text(0), 1);
        Said.is("MONEY", x.guest(0, 1), 8);
    }

    // ---- six of all

    private static void fullHouse() {
        Said.said(5, "is the HOUSE (MONTH 0, no VISITS;");
        StringBuilder text = new StringBuilder("sb3w7j2");
        for (int i = 0; i < 6; i++) {
            text.append(";dq").append(9 - i).append("p").append(11 * i + 5);
            text.append(";gl").append(5 - i).append("m").append(17 * i + 3).append("h").append(i + 3);
        }
        BottleBefore x = Due.house(text.toString());
        fullIs(x, 0, 0);
        Said.is("count(6)", x.count(6), 0);
        Said.is("count(8)", x.count(8), 0);
        Said.is("SOUR", x.all(0), 0);
        Said.is("RICH", x.all(1), 5);
        Said.is("MERRY", x.all(2), 0);
        Said.is("LOVED", x.all(3), 0);
        Said.said(TERMS, "each GUEST has WAGES more (99 at most)");
        x.month();
        fullIs(x, 7, 1);
        Said.is("count(6)", x.count(6), 0);
        Said.is("count(8)", x.count(8), 0);
        Said.said(43, "8 JOY of all");
        int joy = 0;
        for (int guest = 5; guest >= 0; guest--) {
            joy += x.glad(guest);
            x.visit(guest);
            Said.is("count(8)", x.count(8), joy);
        }
    }

    private static void fullIs(BottleBefore x, int more, int month) {
        Said.is("the BOTTLE", x.rule(0), 3);
        Said.is("count(7)", x.count(7), month);
        for (int i = 0; i < 6; i++) {
            Said.is("QUALITY of " + i, x.drink(i, 0), 9 - i);
            Said.is("PRICE of " + i, x.drink(i, 1), 11 * i + 5);
            Said.is("what " + i + " LIKES", x.guest(i, 0), 5 - i);
            Said.is("MONEY of " + i, x.guest(i, 1), Math.min(99, 17 * i + 3 + more));
            Said.is("MOOD of " + i, x.guest(i, 2), i + 3);
            Said.is("JOY of " + i, x.guest(i, 3), 0);
        }
    }

    // ---- a visit

    private static void joyAndMood() {
        Said.said(TERMS, "MOOD one more, if JOY is 6 or more (9 at most), one less, if it is below 4 (0 at least)");
        int[] change = {-1, -1, -1, -1, 0, 0, 1, 1, 1, 1};
        for (int joy = 0; joy <= 9; joy++) {
            for (int mood = 0; mood <= 9; mood++) {
                int want = mood + change[joy] > 9 ? 9 : mood + change[joy] < 0 ? 0 : mood + change[joy];
                BottleBefore x = Due.house("sj9;dq" + joy + "p60;dq0p60;gl1m0h" + mood);
                x.visit(0);
                Said.is("MOOD " + mood + " by JOY " + joy, x.guest(0, 2), want);
                Said.is("JOY", x.guest(0, 3), joy);
            }
        }
        Said.said(TERMS, "QUALITY of the BOTTLE, and as much more as told, if it LIKES it");
        for (int more = 0; more <= 9; more++) {
            for (int quality = 0; quality <= 9; quality++) {
                BottleBefore x = Due.house("sj" + more + ";dq" + quality + "p60;dp60;gl0m0h5;gl1m0h5");
                Said.is("glad(0)", x.glad(0), quality + more);
                Said.is("glad(1)", x.glad(1), quality);
                x.visit(0);
                Said.is("JOY", x.book(0, 3), quality + more);
                Said.is("MOOD", x.guest(0, 2), quality + more >= 6 ? 6 : quality + more < 4 ? 4 : 5);
            }
        }
    }

    private static void wishes() {
        Said.said(TERMS, "held within 0 .. 9");
        String house = "dq0p0;dq9p0;dq8p0;dq1p0;g";
        String[] sums = {"0-9999*9999", "0-10", "0-1", "0", "1", "8", "9", "10", "11", "9999", "9999*9999"};
        int[] want = {0, 0, 0, 0, 3, 2, 1, 1, 1, 1, 1};
        for (int i = 0; i < sums.length; i++) {
            Said.is("WORTH " + sums[i], Due.holding(Due.house(house), "y:" + sums[i]).visit(0), want[i]);
        }
        Said.said(TERMS, "(or has none), 0 without");
        Said.is("no CLAUSE holds", Due.holding(Due.house("dq1p0;dq0p0;g"), "y:q>1?9").visit(0), 1);
        Said.said(TERMS, "(none at first: QUALITY and MOOD, by 2, cut)");
        for (int quality = 0; quality <= 9; quality++) {
            for (int mood = 0; mood <= 9; mood++) {
                int then = quality >= 6 ? Math.min(9, mood + 1) : quality < 4 ? Math.max(0, mood - 1) : mood;
                int wish = (quality + then) / 2;
                String drinks = "dq" + quality + "p60;dq" + wish + "p9";
                String above = wish < 9 ? ";dq" + (wish + 1) + "p0" : "";
                String below = wish > 0 ? ";dq" + (wish - 1) + "p0" : "";
                BottleBefore x = Due.house(drinks + above + below + ";gl1m9h" + mood);
                Said.is("makes(0, 0) by " + quality + " and " + mood, x.makes(0, 0), 1);
            }
        }
        Said.said(TERMS, "n how many VISITS there were ahead");
        BottleBefore x = Due.holding(Due.house("dq0p0;dq9p0;g"), "y:n=0?9;y:n=60?9;y:n=100?9");
        for (int ahead = 0; ahead <= 101; ahead++) {
            Said.is("visit(0), " + ahead, x.visit(0), ahead == 0 || ahead == 60 || ahead == 100 ? 1 : 0);
        }
    }

    private static void pays() {
        Said.said(TERMS, "PRICE no more than MONEY");
        for (int price = 1; price <= 60; price++) {
            BottleBefore x = Due.holding(Due.house("dq0p60;dq9p" + price + ";gm" + price + ";gm" + (price - 1)), "y:9");
            Said.is("makes(0, 0), just", x.makes(0, 0), 1);
            Said.is("affords(0), just", x.affords(0), price == 60 ? 3 : 2);
            Said.said(TERMS, "can it pay none, it HANDS ON what it got");
            Said.is("makes(1, 0), one short", x.makes(1, 0), NONE);
            Said.is("affords(1), one short", x.affords(1), 0);
            Said.is("visit(1), one short", x.visit(1), 0);
            Said.is("MONEY", x.guest(1, 1), price - 1);
            Said.is("BROUGHT", x.book(0, 2), NONE);
            Said.said(TERMS, "MONEY less by PRICE, that is the BOTTLE now");
            Said.is("visit(0), just", x.visit(0), 1);
            Said.is("MONEY, none left", x.guest(0, 1), 0);
            Said.said(TERMS, "PRICE no more than MONEY");
        }
        Said.is("all is free", Due.house("dp0;dp0;gm0").makes(0, 1), 0);
    }

    private static void nearest() {
        Said.said(TERMS, "(of several the cheapest, then the lowest)");
        // It wishes 5; 4 and 6 are as near.
        for (int p = 0; p <= 20; p++) {
            BottleBefore x = Due.holding(Due.house("dq4p10;dq6p" + p + ";gm20"), "y:5");
            Said.is("10 and " + p, x.makes(0, 0), p < 10 ? 1 : 0);
            BottleBefore y = Due.holding(Due.house("dq6p10;dq4p" + p + ";gm20"), "y:5");
            Said.is("10 and " + p, y.makes(0, 0), p < 10 ? 1 : 0);
        }
        for (int last = 0; last <= 5; last++) {
            StringBuilder text = new StringBuilder("gm50");
            for (int i = 0; i < 6; i++) {
                text.append(";dq").append(i % 2 == 0 ? 4 : 6).append("p").append(i < last ? 9 : 8);
            }
            BottleBefore x = Due.holding(Due.house(text.toString()), "y:5");
            Said.is("the cheapest from " + last + " on", x.makes(0, 0), last);
        }
        for (int p = 0; p <= 20; p++) {
            BottleBefore x = Due.holding(Due.house("dq0p0;dq4p10;dq6p" + p + ";dq5p30;gm20"), "y:5");
            Said.is("the second 10, the third " + p, x.makes(0, 0), p < 10 ? 2 : 1);
        }
        BottleBefore dear = Due.holding(Due.house("dq4p0;dq5p20;dq6p0;gm20;gm19"), "y:5");
        Said.is("the nearest, dear as it is", dear.makes(0, 0), 1);
        Said.is("it can't pay the nearest", dear.makes(1, 0), 0);
    }

    // ---- the book, months, the host, money, prices

    private static void book() {
        Said.said(TERMS, "JOY (the latest 60)");
        BottleBefore x = Due.house("d;d;g;g;g;g;g;g");
        for (int visits = 1; visits <= 130; visits++) {
            x.visit(visits * visits % 6);
            Said.is("count(12)", x.count(12), Math.min(60, visits));
        }
        for (int i = 0; i < 60; i++) {
            Said.is("book(" + i + ", 0)", x.book(i, 0), (130 - i) * (130 - i) % 6);
        }
        Said.is("book(60, 0)", x.book(60, 0), HIDDEN);
        Said.said(18, "the latest (i 0), the one ahead of it (1)");
        BottleBefore y = Due.house("dq1p9;dq8p9;gl1m9;gm0");
        y.visit(1);
        Said.is("book(0, 2), HANDED ON", y.book(0, 2), NONE);
        Said.is("book(1, 0)", y.book(1, 0), HIDDEN);
        y.visit(0);
        int[][] want = {{0, 0, 0, 1}, {1, 0, NONE, 4}};
        for (int i = 0; i < 8; i++) {
            Said.is("book(" + i / 4 + ", " + i % 4 + ")", y.book(i / 4, i % 4), want[i / 4][i % 4]);
        }
    }

    private static BottleBefore atMonth(String house, int month) {
        BottleBefore x = Due.house(house);
        Due.tell(x, 2, "m;m;m;m;m;m;m;m;m;m;m;m;m;m;m;m");
        for (int i = 0; i < month / 16; i++) {
            x.perform(0);
        }
        for (int i = 0; i < month % 16; i++) {
            x.month();
        }
        return x;
    }

    private static void months() {
        Said.said(TERMS, "A MONTH (0 at first; 999 at most: none goes by then)");
        Said.is("at first", Due.house("d;d;g").count(7), 0);
        BottleBefore x = atMonth("sw1;d;d;gm0", 998);
        Said.is("count(7)", x.count(7), 998);
        Said.is("month()", x.month(), 999);
        Said.is("count(13)", x.count(13), 40);
        Said.is("month(), beyond", x.month(), NONE);
        Said.is("perform(0)", x.perform(0), 0);
        Said.is("run(0, 0)", x.run(0, 0), 0);
        Said.is("undo()", x.undo(), 39);
        Said.is("run(0, 0)", x.run(0, 0), 1);
        Said.is("perform(0)", x.perform(0), 1);
        Said.is("count(7)", x.count(7), 999);
        Said.is("WAGES no more than that", x.guest(0, 1), 99);
        BottleBefore poor = atMonth("sw0;d;dp9;gm8", 999);
        Said.is("month()", poor.month(), NONE);
        Said.is("MONEY", poor.guest(0, 1), 8);
    }

    private static void wages() {
        Said.said(TERMS, "each GUEST has WAGES more (99 at most)");
        for (int money = 0; money <= 99; money++) {
            for (int wages : new int[] {0, 1, 5, 30}) {
                BottleBefore x = Due.house("sw" + wages + ";d;d;gm" + money + ";gm0");
                x.month();
                Said.is("WAGES " + wages + " and " + money, x.guest(0, 1), Math.min(99, money + wages));
                Said.is("WAGES " + wages + " and 0", x.guest(1, 1), wages);
            }
        }
    }

    private static void hosts() {
        Said.said(TERMS, "The HOST puts a DRINK (another one than the BOTTLE; once a MONTH)");
        BottleBefore x = Due.house("dp0;dq9p60;d;gm0");
        Said.is("host(0), the BOTTLE", x.host(0), false);
        Said.is("count(11)", x.count(11), 0);
        Said.is("host(2)", x.host(2), true);
        Said.is("count(11)", x.count(11), 1);
        Said.is("host(1), again", x.host(1), false);
        Said.is("host(2), the BOTTLE", x.host(2), false);
        x.visit(0);
        Said.is("the BOTTLE by a VISIT", x.rule(0), 0);
        Said.is("host(2), again behind a VISIT", x.host(2), false);
        Said.said(TERMS, "the HOST may put again");
        x.month();
        Said.is("count(11)", x.count(11), 0);
        Said.is("host(0), the BOTTLE", x.host(0), false);
        Said.is("host(1)", x.host(1), true);
        Said.is("host(2), again", x.host(2), false);
        x.undo();
        Said.is("count(11), undone", x.count(11), 0);
        Said.is("host(2), undone", x.host(2), true);
        x.undo();
        x.undo();
        Said.is("count(11), the MONTH undone, too", x.count(11), 1);
        Said.is("host(2), the MONTH undone, too", x.host(2), false);
    }

    private static void paid() {
        Said.said(TERMS, "MONEY given (1 .. 50, 99 at most)");
        for (int money : new int[] {0, 1, 48, 49, 50, 97, 98, 99}) {
            for (int n = -1; n <= 52; n++) {
                BottleBefore x = Due.house("d;d;gm" + money);
                boolean can = n >= 1 && n <= 50 && money + n <= 99;
                Said.is("pay(0, " + n + ") to " + money, x.pay(0, n), can ? money + n : NONE);
                Said.is("MONEY", x.guest(0, 1), can ? money + n : money);
                Said.is("count(13)", x.count(13), can ? 1 : 0);
            }
        }
    }

    private static void prices() {
        Said.said(TERMS, "A PRICE is set (0 .. 60)");
        for (int v = -2; v <= 62; v++) {
            BottleBefore x = Due.house("d;dp7;g");
            boolean can = v >= 0 && v <= 60 && v != 7;
            Said.is("price(1, " + v + ")", x.price(1, v), can ? 7 : NONE);
            Said.is("drink(1, 1)", x.drink(1, 1), can ? v : 7);
            Said.is("drink(0, 1)", x.drink(0, 1), 5);
            Said.is("count(13)", x.count(13), can ? 1 : 0);
        }
    }

    // ---- undone

    /** The i-th act of a kind; months lie between the puts of the host. */
    private static int act(BottleBefore x, int kind, int i) {
        switch (kind) {
            case 0: return x.visit(i % 2);
            case 1: return x.month();
            case 2: return i % 2 == 0 ? (x.host(1 - x.rule(0)) ? 1 : NONE) : x.month();
            case 3: return x.pay(i % 2, 1);
            case 4: return x.price(0, i + 6);
            default: return x.years(1, i);
        }
    }

    private static long sumOf(BottleBefore x) {
        long sum = x.rule(0);
        for (int what : new int[] {6, 7, 8, 11, 12}) {
            sum = sum * 31 + x.count(what);
        }
        for (int i = 0; i < 6; i++) {
            sum = sum * 31 + x.guest(i / 3, 1 + i % 3);
        }
        return (sum * 31 + x.drink(0, 1)) * 31 + x.book(0, 0);
    }

    private static void undone() {
        Said.said(TERMS, "the latest 40 can be UNDONE one by one");
        for (int kind = 0; kind <= 5; kind++) {
            for (int acts : new int[] {0, 1, 2, 39, 40, 41, 48}) {
                BottleBefore x = Due.house("sw1;dq3;dq8;gm30;gm20");
                long[] sums = new long[acts + 1];
                sums[0] = acts < 10 ? sumOf(x) : 0;
                for (int i = 0; i < acts; i++) {
                    Said.is("act of kind " + kind, act(x, kind, i) != NONE, true);
                    sums[i + 1] = acts < 10 || i == acts - 41 || i == acts - 2 ? sumOf(x) : 0;
                }
                int can = Math.min(40, acts);
                Said.is("count(13)", x.count(13), can);
                for (int left = can - 1; left >= 0; left--) {
                    Said.is("undo() of kind " + kind, x.undo(), left);
                    int at = acts - can + left;
                    if (sums[at] != 0) {
                        Said.is("as it was ahead of it", sumOf(x), sums[at]);
                    }
                }
                Said.is("undo(), none", x.undo(), NONE);
                Said.is("count(13)", x.count(13), 0);
                Said.is("an ACT again", act(x, 1, 0) != NONE, true);
                Said.is("undo() of it", x.undo(), 0);
            }
        }
        Said.said(17, "how many still can be");
        BottleBefore x = Due.house("d;d;g");
        x.month();
        x.month();
        Said.is("undo()", x.undo(), 1);
        x.month();
        Said.is("undo()", x.undo(), 1);
        Said.is("undo()", x.undo(), 0);
        Said.is("undo()", x.undo(), NONE);
        x.law(NONE);
        x.snow(3);
        x.seen(0, 0, 0, 0);
        x.image();
        Said.is("no ACTS, these", x.undo(), NONE);
    }

    private static void undoneBook() {
        Said.said(TERMS, "(THE BOOK, too)");
        for (int undone : new int[] {1, 20, 39, 40}) {
            for (int visits : new int[] {40, 60, 61, 99, 100, 101, 140}) {
                BottleBefore x = Due.house("d;d;g;g;g;g;g;g");
                for (int i = 1; i <= visits; i++) {
                    x.visit(i * i % 6);
                }
                for (int i = 0; i < undone; i++) {
                    x.undo();
                }
                int left = visits - undone;
                Said.is("count(12)", x.count(12), Math.min(60, left));
                for (int i = 0; i < 60; i++) {
                    int number = left - i;
                    Said.is("book(" + i + ", 0)", x.book(i, 0), number < 1 ? HIDDEN : number * number % 6);
                }
                Said.is("book(60, 0)", x.book(60, 0), HIDDEN);
            }
        }
    }

    // ---- winters

    private static void runs() {
        Said.said(TERMS, "behind how many STEPS the first is that can't be; JOY of its VISITS together");
        for (int at = 0; at < 16; at++) {
            for (String wrong : new String[] {"g1", "h2", "h0"}) {
                BottleBefore x = Due.house("d;d;g");
                Due.tell(x, 2, "g0;".repeat(at) + wrong + ";m".repeat(15 - at));
                Said.is("run(0, 0)", x.run(0, 0), at);
                Said.is("run(0, 1)", x.run(0, 1), 8 * at);
                Said.said(TERMS, "DO: its STEPS as ACTS, up to there.");
                Said.is("perform(0)", x.perform(0), at);
                Said.is("count(13)", x.count(13), at);
                Said.is("count(6)", x.count(6), at);
                Said.is("count(7)", x.count(7), 0);
                Said.said(TERMS, "behind how many STEPS the first is that can't be; JOY of its VISITS together");
            }
        }
        Said.said(20, "behind how many (0; NONE: all can be)");
        BottleBefore x = Due.house("d;d;g");
        Due.tell(x, 2, "m;".repeat(15) + "h1");
        Due.tell(x, 2, "h1;h0");
        Due.tell(x, 2, "h1;m;h0");
        Said.is("run(0, 0)", x.run(0, 0), NONE);
        Said.is("run(1, 0), once a MONTH", x.run(1, 0), 1);
        Said.is("run(2, 0)", x.run(2, 0), NONE);
        Said.is("run(2, 1), no VISIT", x.run(2, 1), 0);
        Said.said(21, "how many STEPS were done");
        Said.is("perform(0)", x.perform(0), 16);
        Said.is("count(7)", x.count(7), 15);
        Said.is("perform(2), it put", x.perform(2), 0);
        Said.is("count(13)", x.count(13), 16);
    }

    private static void rounds() {
        Said.said(TERMS, "how often (1 .. 30) it goes until the BOTTLE is first as it is now");
        for (int at = 1; at <= 33; at++) {
            BottleBefore x = Due.holding(Due.house("dq0p0;dq9p0;g"), "y:n=" + (at - 1) + "?0;y:9");
            Due.tell(x, 2, "g0");
            Said.is("round(0), " + at, x.round(0), at <= 30 ? at : NONE);
        }
        Said.said(TERMS, "(JOY, MOODS, MONEY go on)");
        // It has 3 and pays 1 each time: behind the third it hands on what it brought, and that stays.
        BottleBefore x = Due.holding(Due.house("sw0;dq0p2;dq9p1;gm3"), "y:n=2?0;y:9");
        Due.tell(x, 2, "g0");
        Said.is("round(0), MONEY goes on", x.round(0), NONE);
        Due.holding(x, "y:n=1?0;y:9");
        Said.is("round(0), MONEY goes on", x.round(0), 2);
        // MOOD 5 is 4, 3 and then 2 by what it drinks.
        BottleBefore y = Due.holding(Due.house("sj0;dq0p0;dq3p0;gh5"), "y:h<3?0;y:9");
        Due.tell(y, 2, "g0");
        Said.is("round(0), MOOD goes on", y.round(0), 3);
    }

    // ---- rows

    private static void bests() {
        Said.said(TERMS, "rows of all GUESTS, each once (digits, the first the highest)");
        Said.is("best(0)", chain().best(0), 543210);
        Said.is("best(1)", chain().best(1), 69);
        Said.is("best(0) of one", Due.house("d;d;g").best(0), 0);
        Said.is("best(1) of one", Due.house("d;d;g").best(1), 8);
        Said.said(TERMS, "(of several the least row)");
        Said.is("best(0), all alike", Due.house(SIX_ALIKE).best(0), 12345);
        Said.is("best(1), all alike", Due.house(SIX_ALIKE).best(1), 48);
        Said.is("best(0), nobody has JOY", Due.house("sj0;dq0;dq0;g;g").best(0), 1);
        Said.is("best(1), nobody has JOY", Due.house("sj0;dq0;dq0;g;g").best(1), 0);
        Said.said(TERMS, "COMES for n (1 .. 4): rows of n VISITS (any GUESTS, also again)");
        int[] rows = {5, 54, 543, 5432};
        int[] joys = {14, 27, 39, 50};
        for (int n = 0; n <= 5; n++) {
            boolean can = n >= 1 && n <= 4;
            Said.is("comes(" + n + ", 0)", chain().comes(n, 0), can ? rows[n - 1] : NONE);
            Said.is("comes(" + n + ", 1)", chain().comes(n, 1), can ? joys[n - 1] : NONE);
            Said.is("comes(" + n + ", 0) of one", Due.house("d;d;g").comes(n, 0), can ? 0 : NONE);
            Said.is("comes(" + n + ", 1) of one", Due.house("d;d;g").comes(n, 1), can ? 8 * n : NONE);
            BottleBefore again = Due.house("sb1;dq0p0;dq9p0;gl0h0;gl1h9");
            Said.is("comes(" + n + ", 0), again", again.comes(n, 0), can ? new int[] {1, 11, 111, 1111}[n - 1] : NONE);
        }
        Said.said(TERMS, "(of several the least): the row, JOY. SOONEST");
        Said.is("comes(4, 0), all alike", Due.house(SIX_ALIKE).comes(4, 0), 0);
        Said.is("comes(4, 1), all alike", Due.house(SIX_ALIKE).comes(4, 1), 32);
    }

    private static void soonests() {
        Said.said(TERMS, "the fewest VISITS (0 .. 4) behind which it is the BOTTLE");
        int[] rows = {0, 2, 3, 4, 5, 0};
        for (int drink = 0; drink <= 5; drink++) {
            Said.is("soonest(" + drink + ", 0)", chain().soonest(drink, 0), drink == 5 ? 0 : 1);
            Said.is("soonest(" + drink + ", 1)", chain().soonest(drink, 1), rows[drink]);
        }
        for (int ahead = 0; ahead <= 5; ahead++) {
            BottleBefore x = Due.holding(Due.house("dq0p0;dq9p0;gm1;gm2"), "y:n=" + ahead + "&m=2?9");
            Said.is("soonest(1, 0), " + ahead, x.soonest(1, 0), ahead <= 3 ? ahead + 1 : NONE);
            Said.is("ends(0), " + ahead, x.ends(0), ahead <= 3 ? ahead + 1 : NONE);
            Said.said(TERMS, "the row (of several the least; 0 VISITS: 0)");
            Said.is("soonest(1, 1), " + ahead, x.soonest(1, 1), ahead <= 3 ? 1 : NONE);
            Said.is("soonest(0, 1)", x.soonest(0, 1), 0);
            Said.said(TERMS, "ENDS: likewise, behind which the BOTTLE is another one than now.");
            Said.is("ends(1), " + ahead, x.ends(1), ahead <= 3 ? 1 : NONE);
        }
        Said.is("ends(0)", chain().ends(0), 1);
        Said.is("ends(1)", chain().ends(1), 0);
        Said.is("ends(0), never", Due.house("d;d;g").ends(0), NONE);
        Said.is("ends(1), never", Due.house("d;d;g").ends(1), NONE);
    }

    /** Each row of visits made for real in a house of its own, in houses without a law, with moods and money. */
    private static void rowsByHand() {
        Said.said(TERMS, "(Apart, from as it is.)");
        String[] texts = {
            "sb2w3j4;dq1p2;dq8p7;dq4p3;gl0m9h0;gl1m7h9;gl2m2h3;gl2m0h5;gl1m30h4;gl0m14h9",
            "sb5w1j1;dq0p0;dq2p1;dq4p2;dq6p3;dq8p4;dq9p9;gl5m4h1;gl3m5h9;gl4m2h8;gl0m3h0;gl1m9h7;gl2m18h5"};
        for (String text : texts) {
            int top = -1;
            int best = 0;
            for (int row = 12345; row <= 543210; row++) {
                if (digits(row, 6) == 63) {
                    int joy = visited(text, row, 6).count(8);
                    best = joy > top ? row : best;
                    top = Math.max(top, joy);
                }
            }
            Said.is("best(0)", Due.house(text).best(0), best);
            Said.is("best(1)", Due.house(text).best(1), top);
            for (int n = 1; n <= 3; n++) {
                rowsOf(text, n);
            }
        }
    }

    private static void rowsOf(String text, int n) {
        int top = -1;
        int best = 0;
        int part = 1000000;
        int[] ends = new int[6];
        int[] unlike = new int[6];
        for (int i = 0; i < n; i++) {
            part /= 6;
        }
        for (int row = 0; row < (n == 1 ? 10 : n == 2 ? 100 : 1000); row++) {
            int bits = digits(row, n);
            if (bits != 0) {
                BottleBefore x = visited(text, row, n);
                best = x.count(8) > top ? row : best;
                top = Math.max(top, x.count(8));
                ends[x.rule(0)]++;
                unlike[x.rule(0)] += Integer.bitCount(bits) == n ? 1 : 0;
            }
        }
        BottleBefore x = Due.house(text);
        Said.is("comes(" + n + ", 0)", x.comes(n, 0), best);
        Said.is("comes(" + n + ", 1)", x.comes(n, 1), top);
        for (int drink = 0; drink < x.count(1); drink++) {
            Said.is("odds(" + drink + ", " + n + ")", x.odds(drink, n), ends[drink] * part);
            Said.is("who(" + drink + ", " + n + ", NONE)", x.who(drink, n, NONE), unlike[drink]);
        }
    }

    /** The guests of a row of so many digits as bits; 0, if one of them is not there. */
    private static int digits(int row, int n) {
        int bits = 0;
        int rest = row;
        for (int i = 0; i < n; i++) {
            if (rest % 10 > 5) {
                return 0;
            }
            bits |= 1 << rest % 10;
            rest /= 10;
        }
        return bits;
    }

    private static BottleBefore visited(String text, int row, int n) {
        BottleBefore x = Due.house(text);
        int ten = 1;
        for (int i = 1; i < n; i++) {
            ten *= 10;
        }
        for (int i = 0; i < n; i++) {
            x.visit(row / ten % 10);
            ten /= 10;
        }
        return x;
    }

    private static void who() {
        Said.said(TERMS, "WHO for a DRINK, k (1 .. 3): rows of k unlike GUESTS");
        int[] many = {NONE, 6, 30, 120, NONE};
        for (int k = 0; k <= 4; k++) {
            Said.is("who(0, " + k + ", NONE)", Due.house(SIX_ALIKE).who(0, k, NONE), many[k]);
        }
        Said.is("who(0, 2, NONE) of one", Due.house("d;d;g").who(0, 2, NONE), 0);
        Said.is("who(0, 2, 0) of one", Due.house("d;d;g").who(0, 2, 0), NONE);
        Said.is("who(0, 3, NONE) of two", Due.house("d;d;g;g").who(0, 3, NONE), 0);
        Said.is("who(0, 3, NONE) of three", Due.house("d;d;g;g;g").who(0, 3, NONE), 6);
        Said.said(TERMS, "it is the BOTTLE then: how many, the i-th (rising)");
        int[] rows = {1, 10, 20, 21, 30, 31, 40, 41, 50, 51};
        BottleBefore x = chain();
        Said.is("who(0, 2, NONE)", x.who(0, 2, NONE), 10);
        for (int i = 0; i < 12; i++) {
            Said.is("who(0, 2, " + i + ")", x.who(0, 2, i), i < 10 ? rows[i] : NONE);
        }
        Said.is("who(5, 1, NONE)", x.who(5, 1, NONE), 0);
        Said.is("who(4, 1, NONE)", x.who(4, 1, NONE), 1);
        Said.is("who(4, 1, 0)", x.who(4, 1, 0), 5);
    }

    // ---- what was seen

    private static void seen() {
        Said.said(TERMS, "SEEN of a GUEST (10 at most, of all)");
        BottleBefore x = Due.house("d;d;g;g;g");
        for (int i = 1; i <= 12; i++) {
            Said.is("seen, " + i, x.seen(i % 3, 0, 5, 0), i <= 10 ? i : NONE);
            Said.is("count(10)", x.count(10), Math.min(10, i));
        }
        Said.said(TERMS, "with so much MONEY (0 .. 99)");
        for (int money = -2; money <= 101; money++) {
            int want = money >= 0 && money <= 99 ? 1 : NONE;
            Said.is("seen(0, 0, " + money + ", 0)", Due.house("d;d;g").seen(0, 0, money, 0), want);
        }
        Said.said(TERMS, "BROUGHT another or the same one, or HANDED it ON");
        for (int brought = -3; brought <= 3; brought++) {
            BottleBefore y = Due.house("dp5;dq9p6;g");
            int want = brought >= -1 && brought <= 1 ? 1 : NONE;
            Said.is("seen(0, 0, 4, " + brought + ")", y.seen(0, 0, 4, brought), want);
            // With 4 it can pay none: it handed on.
            Said.is("fits(0, NONE)", y.fits(0, NONE), brought == 0 || brought == 1 ? 0 : 20);
        }
    }

    private static void fits() {
        Said.said(TERMS, "10 times the DRINK that it LIKES and MOOD 0 .. 9 ahead of each of these VISITS");
        for (int drinks = 2; drinks <= 6; drinks++) {
            BottleBefore x = Due.house("g;g" + ";d".repeat(drinks));
            Said.is("fits(1, NONE), nothing SEEN", x.fits(1, NONE), 10 * drinks);
            Said.is("fits(1, last)", x.fits(1, 10 * drinks - 1), 10 * drinks - 1);
            Said.is("fits(1, beyond)", x.fits(1, 10 * drinks), NONE);
        }
        Said.said(TERMS, "by which all SEEN of it is so (the WISH by MOOD behind the drinking, as told)");
        // It brings 9, if MOOD behind it is 9: got 9, ahead of it 8 or 9; got 5, 9 alone; got 0, none.
        BottleBefore x = Due.holding(Due.house("sj0;dq9p0;dq5p0;dq0p0;g"), "y:h=9?9;y:0");
        x.seen(0, 0, 0, 0);
        int[] first = {8, 9, 18, 19, 28, 29};
        Said.is("fits(0, NONE)", x.fits(0, NONE), 6);
        for (int i = 0; i < 7; i++) {
            Said.is("fits(0, " + i + ")", x.fits(0, i), i < 6 ? first[i] : NONE);
        }
        x.seen(0, 1, 99, 0);
        Said.is("fits(0, NONE)", x.fits(0, NONE), 3);
        Said.is("fits(0, 2)", x.fits(0, 2), 29);
        Said.is("fits(0, 3)", x.fits(0, 3), NONE);
        x.seen(0, 2, 5, 0);
        Said.is("fits(0, NONE)", x.fits(0, NONE), 0);
        Said.is("fits(0, 0)", x.fits(0, 0), NONE);
        for (int guest = 0; guest <= 5; guest++) {
            for (int unfit = 0; unfit < 10; unfit++) {
                BottleBefore z = Due.holding(Due.house("dq9p0;dq5p0;dq0p0;g;g;g;g;g;g"), "y:9");
                for (int i = 0; i < 10; i++) {
                    z.seen(i == unfit ? guest : (guest + i) % 6, i % 3, 9 * i, i == unfit ? 2 : 0);
                }
                for (int of = 0; of <= 5; of++) {
                    Said.is("fits(" + of + ", NONE), " + unfit + " unfit", z.fits(of, NONE), of == guest ? 0 : 30);
                }
            }
        }
        Said.said(TERMS, "(VISITS ahead as 0)");
        BottleBefore y = Due.holding(Due.house("dq0p0;dq9p0;g"), "y:n=0?9;y:0");
        y.visit(0);
        y.seen(0, 0, 0, 1);
        Said.is("fits(0, NONE)", y.fits(0, NONE), 20);
    }

    private static void serves() {
        Said.said(TERMS, "(HANDED ON is one, too) is that of the fewest (of several the lowest)");
        Said.is("serve(0, 8), all HAND ON", Due.house("dp9;dp9;dp9;g").serve(0, 8), 0);
        Said.is("serve(0, 9)", Due.holding(Due.house("dp9;dp9;dp9;g"), "y:5").serve(0, 9), 0);
        BottleBefore six = Due.holding(Due.house("dq0p0;dq1p0;dq2p0;dq3p0;dq8p0;dq9p0;g"), "y:9");
        Said.is("serve(0, 0), the last is brought", six.serve(0, 0), 0);
        Due.holding(six, "y:q=9?h;y:9");
        Said.is("serve(0, 0), the last tells most", six.serve(0, 0), 5);
        // One alone fits: by each drink what most would bring is that of one.
        BottleBefore one = Due.holding(Due.house("sj0;dq0p0;dq5p0;g"), "y:l=1&q=5&h=9?9;y:0");
        Said.is("fits(0, NONE)", one.fits(0, NONE), 20);
        one.seen(0, 1, 5, 1);
        Said.is("serve(0, 5), one fits", one.serve(0, 5), 0);
        Said.is("fits(0, 0)", one.fits(0, 0), 19);
        Said.is("fits(0, 1)", one.fits(0, 1), NONE);
        // By the third what is brought tells MOOD below 5 (ahead of it) from the others; by the first nothing.
        BottleBefore x = Due.holding(Due.house("sj0;dq5p0;dq4p0;dq9p0;g"), "y:q=4&h<2|q=9&h>5?9;y:4");
        Said.is("serve(0, 0)", x.serve(0, 0), 2);
        Due.holding(x, "y:q=5&h<5|q=9&h>5?9;y:4");
        Said.is("serve(0, 0), of several the lowest", x.serve(0, 0), 0);
        Due.holding(x, "y:q=4&h<5|q=9&h>5?9;y:4");
        Said.is("serve(0, 0), of several the lowest", x.serve(0, 0), 1);
    }

    // ---- games, deals, odds

    private static void games() {
        Said.said(TERMS, "JOY of what it gets, less PRICE of what it brings by 3, cut");
        for (int price = 0; price <= 60; price++) {
            BottleBefore x = Due.house("sj2;dq4p" + price + ";dq0p1;g;gl1");
            int cut = 0;
            for (int rest = price; rest >= 3; rest -= 3) {
                cut++;
            }
            Said.is("game(0, 1, 0, 0, 0) by " + price, x.game(0, 1, 0, 0, 0), 6 - cut);
            Said.is("game(0, 1, 0, 0, 1) by " + price, x.game(0, 1, 0, 0, 1), 4 - cut);
            Said.is("game(0, 1, 0, 1, 0) by " + price, x.game(0, 1, 0, 1, 0), -cut);
            Said.is("game(0, 1, 0, 1, 1) by " + price, x.game(0, 1, 0, 1, 1), 4);
            Said.is("game(1, 0, 1, 1, 1) by " + price, x.game(1, 0, 1, 1, 1), 0);
        }
        Said.said(TERMS, "by which neither has more by another DRINK of its own: how many, the i-th (rising)");
        BottleBefore x = Due.house("dp5;dp3;dp2;dp0;dp60;dp2;g;g");
        int[] rests = {22, 23, 25, 32, 33, 35, 52, 53, 55};
        Said.is("rests(0, 1, NONE)", x.rests(0, 1, NONE), 9);
        for (int i = 0; i < 10; i++) {
            Said.is("rests(0, 1, " + i + ")", x.rests(0, 1, i), i < 9 ? rests[i] : NONE);
        }
        BottleBefore dear = Due.house("dp59;dp57;dp60;g;g");
        Said.is("rests(0, 1, NONE), none is cheap", dear.rests(0, 1, NONE), 4);
        Said.is("rests(0, 1, 3), none is cheap", dear.rests(0, 1, 3), 11);
        BottleBefore first = Due.house("dp0;dp9;g;g");
        Said.is("rests(0, 1, NONE), the first alone", first.rests(0, 1, NONE), 1);
        Said.is("rests(0, 1, 0), the first alone", first.rests(0, 1, 0), 0);
        BottleBefore one = Due.house("dp3;dp2;g;g");
        Said.is("rests(1, 0, NONE)", one.rests(1, 0, NONE), 1);
        Said.is("rests(1, 0, 0)", one.rests(1, 0, 0), 11);
        Said.is("rests(1, 0, 1)", one.rests(1, 0, 1), NONE);
    }

    private static void dealt() {
        Said.said(TERMS, "by which JOY together is most (of several the least): the row, JOY. ODDS");
        Said.is("dealt(0), all alike", Due.house("d;d;d;d;d;d;g;g;g;g;g;g").dealt(0), 12345);
        Said.is("dealt(0), one", Due.house("dq1;dq1;gl1").dealt(0), 1);
        Said.is("dealt(0), one, another is better", Due.house("dq9;dq1;gl1").dealt(0), 0);
        Said.is("dealt(0), one, as good", Due.house("dq4;dq1;gl1").dealt(0), 0);
        Said.is("dealt(1), one, as good", Due.house("dq4;dq1;gl1").dealt(1), 4);
        Said.is("dealt(0), six", Due.house("d;d;d;d;d;d;gl5;gl4;gl3;gl2;gl1;gl0").dealt(0), 543210);
        BottleBefore x = Due.house("d;d;d;gl2;g");
        Said.is("comes(4, 1), more than can be dealt", x.comes(4, 1) > x.dealt(1), true);
        Said.is("dealt(0) behind other rows", x.dealt(0), 20);
        Said.is("dealt(1) behind other rows", x.dealt(1), 16);
        Said.is("dealt(0) again", x.dealt(0), 20);
        Said.said(33, "there are fewer DRINKS than GUESTS");
        for (int guests = 1; guests <= 6; guests++) {
            for (int drinks = 2; drinks <= 6; drinks++) {
                BottleBefore y = Due.house("g" + ";g".repeat(guests - 1) + ";d".repeat(drinks));
                Said.is("dealt(1)", y.dealt(1), drinks < guests ? NONE : 5 * guests + 3);
            }
        }
    }

    private static void odds() {
        Said.said(TERMS, "(each part by how many GUESTS there are, cut, goes on by each)");
        for (int guests = 1; guests <= 6; guests++) {
            int rows = 1;
            int part = 1000000;
            for (int n = 0; n <= 4; n++) {
                BottleBefore x = Due.house("d;d" + ";g".repeat(guests));
                Said.is("odds(0, " + n + ") of " + guests, x.odds(0, n), rows * part);
                Said.is("odds(1, " + n + ") of " + guests, x.odds(1, n), 0);
                rows *= guests;
                part /= guests;
            }
        }
        Said.said(TERMS, "ODDS of a DRINK for n (0 .. 4) VISITS of GUESTS drawn alike likely (again, too)");
        int[] want = {333332, 166666, 166666, 166666, 166666, 0};
        for (int drink = 0; drink <= 5; drink++) {
            Said.is("odds(" + drink + ", 0)", chain().odds(drink, 0), drink == 5 ? 1000000 : 0);
            Said.is("odds(" + drink + ", 1)", chain().odds(drink, 1), want[drink]);
            int byFour = drink == 5 ? 0 : (drink == 0 ? 2 : 1) * 216 * 771;
            Said.is("odds(" + drink + ", 4)", chain().odds(drink, 4), byFour);
            Said.is("odds(" + drink + ", 5)", chain().odds(drink, 5), NONE);
            Said.is("odds(" + drink + ", -1)", chain().odds(drink, -1), NONE);
        }
    }

    // ---- looks

    private static void leastAndMost() {
        Said.said(TERMS, "(of several the lowest, each)");
        BottleBefore x = Due.house("sw0;dp0;dp0;gh5m20;gh4m21;gh4m21;gh9m0");
        Said.is("SOUR", x.all(0), 1);
        Said.is("RICH", x.all(1), 1);
        Said.is("MERRY, none has JOY", x.all(2), 0);
        Said.is("SOUR, falling", Due.house("d;d;gh5;gh4;gh3;gh4").all(0), 2);
        Said.is("RICH, rising", Due.house("d;d;gm5;gm6;gm7;gm6").all(1), 2);
        Said.is("RICH, all poor", Due.house("d;d;gm0h9;gm0;gm0;gm0;gm0;gm0").all(1), 0);
        BottleBefore alike = Due.house(SIX_ALIKE);
        Said.is("MERRY, none has JOY", alike.all(2), 0);
        Said.is("SOUR, all alike", alike.all(0), 0);
        Said.is("RICH, all alike", alike.all(1), 0);
        alike.visit(4);
        alike.visit(2);
        Said.is("MERRY of two", alike.all(2), 2);
        alike.visit(4);
        Said.is("MERRY", alike.all(2), 4);
        BottleBefore last = Due.house("d;d;gh9m0;gh0m99");
        Said.is("SOUR, the last", last.all(0), 1);
        Said.is("RICH, the last", last.all(1), 1);
        Said.said(TERMS, "LOVED: the DRINK that most GUESTS LIKE (of several the lowest)");
        Said.is("LOVED of one", Due.house("d;d;gl1").all(3), 1);
        Said.is("LOVED of one, the first", Due.house("d;d;gl0").all(3), 0);
        Said.is("LOVED, two of two, the first", Due.house("d;d;gl1;gl0").all(3), 0);
        Said.is("LOVED, two of two", Due.house("d;d;d;gl2;gl1").all(3), 1);
        Said.is("LOVED, most", Due.house("d;d;d;gl2;gl1;gl2;gl0").all(3), 2);
        Said.is("LOVED, the last of six", Due.house("d;d;d;d;d;d;gl5;gl5;gl0").all(3), 5);
        Said.said(TERMS, "CANPAY of a GUEST: DRINKS (bits)");
        Said.is("none", Due.house("dp1;dp1;gm0").affords(0), 0);
        Said.is("all six", Due.house("dp60;dp60;dp60;dp60;dp60;dp60;gm60").affords(0), 63);
        Said.is("the last", Due.house("dp60;dp60;dp60;dp60;dp60;dp59;gm59").affords(0), 32);
        Said.said(TERMS, "POOREST: the least PRICE of a DRINK");
        Said.is("60", Due.house("dp60;dp60;g").all(6), 60);
        Said.is("0", Due.house("dp60;dp0;g").all(6), 0);
        Said.said(TERMS, "NOBLE: GUESTS (bits) who would now bring something of more QUALITY than they get");
        Said.is("as much", Due.holding(Due.house("dq5p5;dq5p0;g;g"), "y:9").all(7), 0);
        Said.is("one more", Due.holding(Due.house("dq5p5;dq6p0;g;g"), "y:9").all(7), 3);
        Said.is("one less", Due.holding(Due.house("sb1;dq5p5;dq6p60;g;g"), "y:9").all(7), 0);
        Said.is("HANDED ON", Due.holding(Due.house("dq5p5;dq6p1;gm0;gm1"), "y:9").all(7), 2);
        Said.is("all six", Due.holding(Due.house("dq5p5;dq6p1;g;g;g;g;g;g"), "y:9").all(7), 63);
        Said.said(TERMS, "what it would bring, if it got that now (NONE: HANDED ON)");
        Said.is("makes(0, 1)", Due.house("dp6;dp6;gm5").makes(0, 1), NONE);
        Said.is("makes(0, 1)", Due.house("dp6;dp5;gm5").makes(0, 0), 1);
    }

    private static void byTheBook() {
        Said.said(TERMS, "together by how many, cut (none: 0)");
        BottleBefore x = Due.holding(Due.house("dq0p0;dq9p0;g"), "y:9");
        Said.is("MIDDLE of none", x.all(4), 0);
        BottleBefore nine = Due.house("dq9;d;g");
        nine.visit(0);
        Said.is("MIDDLE of 9", nine.all(4), 9);
        x.visit(0);
        Said.is("MIDDLE of 0", x.all(4), 0);
        x.visit(0);
        Said.is("MIDDLE of 0 and 9", x.all(4), 4);
        for (int i = 3; i <= 60; i++) {
            x.visit(0);
            Said.is("MIDDLE of " + i, x.all(4), 9 * (i - 1) / i);
        }
        x.visit(0);
        Said.is("MIDDLE of 60 of 61", x.all(4), 9);
        x.undo();
        Said.is("MIDDLE, undone", x.all(4), 8);
        Said.said(TERMS, "BROUGHT of a DRINK: how often, by THE BOOK.");
        BottleBefore y = Due.holding(Due.house("sw0;dq0p30;dq9p1;gm1;gm0;gm30"), "y:n=0?9;y:0");
        Said.is("brought(1) of none", y.brought(1), 0);
        y.visit(0);
        Said.is("brought(1)", y.brought(1), 1);
        y.visit(2);
        Said.is("brought(0)", y.brought(0), 1);
        Said.said(TERMS, "HANDED: how many VISITS in THE BOOK HANDED ON");
        Said.is("none", y.all(5), 0);
        for (int i = 3; i <= 62; i++) {
            y.visit(1);
            Said.is("HANDED", y.all(5), i - 2);
            Said.is("brought(1), the first of all", y.brought(1), i <= 60 ? 1 : 0);
            Said.is("brought(0), the second of all", y.brought(0), i <= 61 ? 1 : 0);
        }
        y.visit(1);
        Said.is("HANDED, 60 at most", y.all(5), 60);
    }

    private static void saves() {
        Said.said(TERMS, "in how many MONTHS (0 .. 99) it can pay it first");
        for (int money = 0; money <= 61; money++) {
            for (int wages : new int[] {0, 1, 7, 30}) {
                BottleBefore x = Due.house("sw" + wages + ";dp60;d;gm" + money);
                int want = 0;
                for (int has = money; has < 60 && want < 100; has += wages) {
                    want++;
                }
                Said.is("saves(0, 0) by " + wages + " from " + money, x.saves(0, 0), want < 100 ? want : NONE);
                for (int i = 0; i < want && want < 100; i++) {
                    Said.is("it can't pay it ahead of that", x.affords(0) & 1, 0);
                    x.month();
                }
                Said.is("it can pay it then", x.affords(0) & 1, want < 100 ? 1 : 0);
            }
        }
    }

    // ---- years, images, other houses

    private static BigInteger stirred(BigInteger x) {
        BigInteger round = BigInteger.ONE.shiftLeft(64);
        return x.multiply(new BigInteger("6364136223846793005")).add(new BigInteger("1442695040888963407")).mod(round);
    }

    private static int drawn(BigInteger x, int of) {
        return x.shiftRight(33).mod(BigInteger.valueOf(of)).intValue();
    }

    private static void years() {
        Said.said(TERMS, "(64 bits, going round); a draw of j: (x shifted right by 33, without sign) modulo j");
        long[] seeds = {0, 1, -1, Long.MIN_VALUE, Long.MAX_VALUE, 1L << 33, -(1L << 33), 6364136223846793005L};
        for (int guests = 1; guests <= 6; guests++) {
            for (int snow = 0; snow <= 9; snow++) {
                long seed = seeds[(guests + snow) % seeds.length] + 31 * guests;
                for (int n : new int[] {1, 2, 59, 60}) {
                    yearsAre("dp0;dq8p3;dq2p9" + ";gl1".repeat(guests), guests, snow, n, seed);
                }
            }
        }
        Said.said(16, "how many VISITS there were by them");
        BottleBefore x = Due.house("d;d;g");
        x.visit(0);
        x.snow(0);
        Said.is("years(60), those ahead not", x.years(60, 4L), 60);
        Said.is("count(6)", x.count(6), 61);
    }

    private static void yearsAre(String text, int guests, int snow, int n, long seed) {
        BottleBefore x = Due.house(text);
        BottleBefore byHand = Due.house(text);
        x.snow(snow);
        BigInteger at = new BigInteger(Long.toUnsignedString(seed));
        int visits = 0;
        for (int i = 0; i < n; i++) {
            at = stirred(at);
            if (drawn(at, 10) < snow) {
                byHand.month();
            } else {
                at = stirred(at);
                byHand.visit(drawn(at, guests));
                visits++;
            }
        }
        Said.is("years(" + n + ", " + seed + ") by " + snow, x.years(n, seed), visits);
        for (int what : new int[] {6, 7, 8, 12, 13}) {
            Said.is("count(" + what + ")", x.count(what), byHand.count(what));
        }
        for (int i = 0; i < 4 * guests; i++) {
            Said.is("guest(" + i / 4 + ", " + i % 4 + ")", x.guest(i / 4, i % 4), byHand.guest(i / 4, i % 4));
        }
        for (int i = 0; i < visits; i++) {
            Said.is("book(" + i + ", 0)", x.book(i, 0), byHand.book(i, 0));
        }
    }

    private static void yearsAndMonths() {
        Said.said(TERMS, "a draw of 10 below SNOW (0 .. 9; 2 at first): nobody comes, a MONTH goes by (if it can)");
        Said.is("SNOW at first", new BottleBefore().count(9), 2);
        BottleBefore none = Due.house("d;d;g");
        none.snow(0);
        Said.is("years(60), no SNOW", none.years(60, 11L), 60);
        Said.is("count(7)", none.count(7), 0);
        for (int month : new int[] {990, 998, 999}) {
            BottleBefore x = atMonth("sw1;d;d;gm0", month);
            x.snow(9);
            int visits = x.years(60, 11L);
            Said.is("count(7) from " + month, x.count(7), 999);
            Said.is("count(6) from " + month, x.count(6), visits);
            Said.said(TERMS, "Each is one ACT.");
            Said.is("count(13) from " + month, x.count(13), 40);
            for (int left = 39; left >= 0; left--) {
                Said.is("undo()", x.undo(), left);
            }
            x.image();
            x.back();
            Said.is("years(7)", x.years(7, 3L) >= 0, true);
            Said.is("count(13), seven", x.count(13), 7);
            Said.said(TERMS, "a draw of 10 below SNOW (0 .. 9; 2 at first): nobody comes, a MONTH goes by (if it can)");
        }
    }

    private static void images() {
        Said.said(TERMS, "An IMAGE keeps the BOTTLE, GUESTS (MONEY, MOOD, JOY), PRICES, the MONTH");
        BottleBefore x = Due.house("sb1w4j2;dq2p1;dq6p5;dq9p12;gl2m20h5;gl0m3h5");
        Due.tell(x, 1, "y:9");
        x.visit(0);
        x.host(2);
        x.price(0, 2);
        Said.is("image()", x.image(), 1);
        long kept = sumOf(x);
        Said.is("no ACT", x.count(13), 3);
        x.month();
        x.host(0);
        x.visit(1);
        x.visit(0);
        x.pay(1, 30);
        x.price(0, 60);
        x.law(0);
        x.snow(9);
        x.seen(0, 0, 1, 1);
        Said.is("back()", x.back(), 1);
        Said.is("as it was", sumOf(x), kept);
        Said.is("the BOTTLE", x.rule(0), 2);
        Said.is("the HOST put", x.count(11), 1);
        Said.is("host(0), it did", x.host(0), false);
        Said.is("the LAW that holds is not of it", x.count(5), 0);
        Said.is("SNOW is not of it", x.count(9), 9);
        Said.is("SEEN is not of it", x.count(10), 1);
        Said.said(TERMS, "BACK: they are so again (no ACT can be UNDONE then)");
        Said.is("count(13)", x.count(13), 0);
        Said.is("undo()", x.undo(), NONE);
        x.month();
        Said.is("an ACT behind it", x.undo(), 0);
        Said.is("as it was", sumOf(x), kept);
        Said.is("back(), once more", x.back(), 1);
        Said.is("back(), nothing between", x.back(), 1);
        Said.is("as it was", sumOf(x), kept);
        Said.said(41, "(instead of the one ahead): how many VISITS");
        x.visit(1);
        x.visit(0);
        Said.is("image()", x.image(), 3);
        x.undo();
        x.undo();
        Said.is("undone to the one ahead", sumOf(x), kept);
        Said.said(42, "BACK: how many VISITS");
        Said.is("back()", x.back(), 3);
        Said.is("count(12)", x.count(12), 3);
        imageOfBook();
    }

    private static void imageOfBook() {
        Said.said(TERMS, "VISITS, THE BOOK; BACK: they are so again");
        for (int between : new int[] {1, 40, 60, 100, 101, 150}) {
            BottleBefore x = Due.house("d;d;g;g;g;g;g;g");
            for (int i = 1; i <= 70; i++) {
                x.visit(i * i % 6);
            }
            Said.is("image()", x.image(), 70);
            for (int i = 0; i < between; i++) {
                x.visit(5);
            }
            Said.is("back()", x.back(), 70);
            Said.is("count(12)", x.count(12), 60);
            for (int i = 0; i < 61; i++) {
                Said.is("book(" + i + ", 0)", x.book(i, 0), i < 60 ? (70 - i) * (70 - i) % 6 : HIDDEN);
            }
        }
        BottleBefore x = Due.house("d;d;g");
        Said.is("image(), empty", x.image(), 0);
        x.visit(0);
        Said.is("back(), empty", x.back(), 0);
        Said.is("book(0, 0)", x.book(0, 0), HIDDEN);
    }

    private static void otherHouses() {
        Said.said(5, "all that was of another one, SEEN, too, is gone but LAWS, which holds, WINTERS, SNOW");
        BottleBefore x = Due.holding(Due.house("sb1;dq9;dq9;dq9;gm9;gm9"), "y:9");
        Due.tell(x, 2, "g0;m");
        x.snow(7);
        for (int i = 0; i < 10; i++) {
            x.seen(0, 0, 9, 1);
        }
        x.visit(0);
        x.month();
        x.host(x.rule(0) == 0 ? 2 : 0);
        x.price(0, 44);
        x.image();
        Said.is("text(0)", Due.tell(x, 0, "d;d;g"), 1);
        int[] counts = {1, 2, 1, 1, 0, 0, 0, 0, 0, 7, 0, 0, 0, 0};
        for (int i = 0; i < counts.length; i++) {
            Said.is("count(" + i + ")", x.count(i), counts[i]);
        }
        Said.is("the BOTTLE", x.rule(0), 0);
        Said.is("PRICE", x.drink(0, 1), 5);
        Said.is("no such DRINK any more", x.drink(2, 0), NONE);
        Said.is("back()", x.back(), NONE);
        Said.is("undo()", x.undo(), NONE);
        Said.is("book(0, 0)", x.book(0, 0), HIDDEN);
        Said.is("fits(0, NONE)", x.fits(0, NONE), 20);
        Said.is("seen(0, 0, 0, 0)", x.seen(0, 0, 0, 0), 1);
        Said.is("perform(0)", x.perform(0), 2);
        Said.said(5, "how many GUESTS; a LAW, a WINTER: its number");
        Said.is("text(0)", Due.tell(x, 0, SIX_ALIKE), 6);
        Said.is("text(1)", Due.tell(x, 1, "y:1"), 1);
        Said.is("text(2)", Due.tell(x, 2, "m"), 1);
    }

    private static void manyCalls() {
        Said.said(TERMS, "An object is used for at most 512 calls after it has been made");
        BottleBefore x = Due.house("sj0;dq9p0;d;gh9");
        for (int i = 4; i <= 511; i++) {
            x.visit(0);
        }
        Said.is("the 512th", x.count(8), 508 * 9);
        BottleBefore y = Due.house("sj9;dq9p0;d;gh9");
        y.snow(0);
        for (int i = 5; i <= 511; i++) {
            y.years(60, i);
        }
        Said.is("the 512th", y.count(8), 507 * 60 * 18);
    }
}
