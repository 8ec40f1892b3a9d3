import java.util.function.Supplier;

/**
 * Each reason for which a promise refuses, on both sides of its bounds, and that nothing has changed behind it. At the
 * end it is looked up in the document whether a reason has no test here.
 */
public final class RefusalsTest {
    private static final int NONE = BottleBefore.NONE;
    private static final int HIDDEN = BottleBefore.HIDDEN;
    private static final int LEAST = Integer.MIN_VALUE;
    private static final int MOST = Integer.MAX_VALUE;
    private static final int NO = 0;
    private static final int YES = 1;
    private static final long THROWS = Said.THROWS;

    private interface With {
        long on(BottleBefore x, int n);
    }

    public static void main(String[] args) {
        tape();
        texts();
        whatIsSo();
        lawsAndSnow();
        visitsAndMonths();
        hosts();
        paysAndPrices();
        yearsAndUndone();
        bookAndSteps();
        winters();
        rows();
        soonestAndEnds();
        sightings();
        who();
        games();
        dealtAndOdds();
        looks();
        images();
        Said.allReasonsQuoted();
        Said.close();
    }

    // ---- the houses

    /** No house; but a tape, two laws, of which one holds, two winters and another snow. */
    private static BottleBefore none() {
        BottleBefore x = new BottleBefore();
        Due.holding(x, "y:q+1");
        Due.tell(x, 1, "y:9");
        Due.tell(x, 2, "g0;m;h1");
        Due.tell(x, 2, "m");
        x.snow(4);
        return Due.tape(x, "d;d");
    }

    /** The least house: nothing happened yet. */
    private static BottleBefore least() {
        return Due.house("d;d;g");
    }

    /** Two guests and three drinks, a winter, a sighting, some acts, an image and acts behind it. */
    private static BottleBefore some() {
        BottleBefore x = Due.house("sb1w4j2;dq2p1;dq6p5;dq9p12;gl2m20h5;gl0m3h5");
        Due.tell(x, 2, "g0;m;g1");
        x.seen(1, 2, 7, 1);
        x.visit(0);
        x.visit(1);
        x.month();
        x.image();
        x.host(2);
        x.pay(1, 9);
        x.price(0, 3);
        x.visit(0);
        return Due.tape(x, "m;g1");
    }

    /** Six of all, four laws and winters, ten sightings, 60 lines and more, 40 acts and more, an image, a full tape. */
    private static BottleBefore full() {
        BottleBefore x = Due.house("sb5w9j4;dq9p60;dq1p2;dq4p3;d;dq7p9;dq0p0;gl5m99h9;gl1;gl2h0;gl3;gl4m0;gm7h2");
        for (int i = 0; i < 4; i++) {
            Due.tell(x, 1, "y:q>" + i + "?h+" + i + ";y:l*9");
            Due.tell(x, 2, "g" + i + ";m;h1;g9;m;m;m;m;m;m;m;m;m;m;m;m");
        }
        x.law(2);
        for (int i = 0; i < 10; i++) {
            x.seen(i % 6, i % 4, 9 * i, i % 3);
        }
        x.years(60, 7L);
        x.image();
        x.years(60, 8L);
        x.host(x.rule(0) == 1 ? 2 : 1);
        return Due.tape(x, " ".repeat(235) + "d;d;g");
    }

    /** The host put a drink in this month, which is the last; the second guest has all money that can be. */
    private static BottleBefore last() {
        BottleBefore x = Due.house("sw1;d;dq9;dq7;g;gm99");
        x.snow(9);
        while (x.count(7) < 930) {
            x.years(60, x.count(6));
        }
        while (x.count(7) < 999) {
            x.month();
        }
        x.host(x.rule(0) == 1 ? 2 : 1);
        x.pay(1, Math.max(1, Math.min(50, 99 - x.guest(1, 1))));
        x.pay(1, Math.max(1, Math.min(50, 99 - x.guest(1, 1))));
        return x;
    }

    /** The call is refused with each of the numbers, and changes nothing. */
    private static void refusedBy(String call, Supplier<BottleBefore> made, With with, long want, int... numbers) {
        for (int n : numbers) {
            Said.refused(call + " by " + n, made, x -> with.on(x, n), want);
        }
    }

    private static void answers(String call, Supplier<BottleBefore> made, Said.Call asked, long want) {
        Said.is(call, Said.answer(made.get(), asked), want);
    }

    private static long bit(boolean answer) {
        return answer ? YES : NO;
    }

    // ---- promises 2 to 5

    private static BottleBefore taped(int bytes) {
        BottleBefore x = some();
        return Due.tape(x, " ".repeat(bytes));
    }

    private static void tape() {
        Said.said(2, "more than 240");
        int four = 0x20202020;
        answers("feed 20 to 220", () -> taped(220), x -> x.feed(four, four, four, four, four), 240);
        Said.refused("feed 20 to 221", () -> taped(221), x -> x.feed(four, four, four, four, four), NONE);
        answers("feed 1 to 239", () -> taped(239), x -> x.feed(0, 0, 0x200000, 0, 0), 240);
        Said.refused("feed 2 to 239", () -> taped(239), x -> x.feed(0x20, 0, 0, 0, 0x20000000), NONE);
        answers("feed none to 240", () -> taped(240), x -> x.feed(0, 0, 0, 0, 0), 240);
        Said.refused("feed 1 to 240", () -> taped(240), x -> x.feed(0, 0, 0, 0, 1), NONE);
        Said.refused("feed 20 to 240", RefusalsTest::full, x -> x.feed(-1, -1, -1, -1, -1), NONE);
        answers("feed none to none", BottleBefore::new, x -> x.feed(0, 0, 0, 0, 0), 0);
        answers("feed 20 to none", BottleBefore::new, x -> x.feed(LEAST | four, four, four, four, -1), 20);

        Said.said(3, "n");
        answers("end(240) of 240", RefusalsTest::full, x -> bit(x.end(240)), YES);
        refusedBy("end of 240", RefusalsTest::full, (x, n) -> bit(x.end(n)), NO, 241, -1, LEAST, MOST);
        answers("end(4) of 4", RefusalsTest::some, x -> bit(x.end(4)), YES);
        answers("end(4) of 4, how many", RefusalsTest::some, x -> x.end(4) ? x.count(4) : NONE, 4);
        answers("end(3) of 4, how many", RefusalsTest::some, x -> x.end(3) ? x.count(4) : NONE, 3);
        answers("end(0) of 4, how many", RefusalsTest::some, x -> x.end(0) ? x.count(4) : NONE, 0);
        refusedBy("end of 4", RefusalsTest::some, (x, n) -> bit(x.end(n)), NO, 5, -1, LEAST, MOST);
        answers("end(0) of none", BottleBefore::new, x -> bit(x.end(0)), YES);
        refusedBy("end of none", BottleBefore::new, (x, n) -> bit(x.end(n)), NO, 1, -1);
    }

    private static void texts() {
        Said.said(4, "none");
        answers("fault(0)", () -> Due.tape(none(), "d;d;g"), x -> x.fault(0), NONE);
        answers("fault(1)", () -> Due.tape(none(), "y:1"), x -> x.fault(1), NONE);
        answers("fault(2)", () -> Due.tape(none(), "m"), x -> x.fault(2), NONE);
        Said.said(4, "no such sort");
        refusedBy("fault", RefusalsTest::some, (x, n) -> x.fault(n), -2, -1, 3, LEAST, MOST);
        refusedBy("fault of none", BottleBefore::new, (x, n) -> x.fault(n), -2, -1, 3);

        Said.said(5, "a FAULT");
        answers("text(0)", () -> Due.tape(some(), "d;d;g"), x -> x.text(0), 1);
        Said.refused("text(0), a FAULT", () -> Due.tape(some(), "d;d;g;x"), x -> x.text(0), NONE);
        Said.refused("text(0), too short", () -> Due.tape(full(), "d;d;"), x -> x.text(0), NONE);
        Said.refused("text(0), empty", () -> Due.tape(full(), ""), x -> x.text(0), NONE);
        Said.refused("text(0), not told", () -> Due.tape(none(), "sb2;d;d;g"), x -> x.text(0), NONE);
        Said.refused("text(1), a FAULT", () -> Due.tape(some(), "y:1;y:[q"), x -> x.text(1), NONE);
        Said.refused("text(1), empty", () -> Due.tape(none(), ""), x -> x.text(1), NONE);
        Said.refused("text(2), a FAULT", () -> Due.tape(some(), "m;g1;"), x -> x.text(2), NONE);
        Said.refused("text(2), empty", () -> Due.tape(none(), ""), x -> x.text(2), NONE);
        Said.said(5, "no such sort");
        refusedBy("text", RefusalsTest::some, (x, n) -> x.text(n), NONE, -1, 3, LEAST, MOST);
        Said.said(5, "there are four");
        answers("text(1), the fourth", () -> Due.tape(withTexts(3), "y:1"), x -> x.text(1), 3);
        answers("text(2), the fourth", () -> Due.tape(withTexts(3), "g7"), x -> x.text(2), 3);
        Said.refused("text(1), a fifth", () -> Due.tape(withTexts(4), "y:1"), x -> x.text(1), NONE);
        Said.refused("text(2), a fifth", () -> Due.tape(withTexts(4), "g7"), x -> x.text(2), NONE);
        answers("text(0) with four", () -> Due.tape(withTexts(4), "d;d;g;g"), x -> x.text(0), 2);
        Said.refused("text(1), a fifth without a house", () -> Due.tape(textsOnly(), "y:1"), x -> x.text(1), NONE);
        Said.refused("text(2), a fifth without a house", () -> Due.tape(textsOnly(), "m"), x -> x.text(2), NONE);
    }

    private static BottleBefore withTexts(int many) {
        BottleBefore x = least();
        for (int i = 0; i < many; i++) {
            Due.tell(x, 1, "y:" + i);
            Due.tell(x, 2, "g0;h" + i);
        }
        return x;
    }

    private static BottleBefore textsOnly() {
        BottleBefore x = none();
        Due.tell(x, 1, "y:3");
        Due.tell(x, 1, "y:4");
        Due.tell(x, 2, "g3");
        Due.tell(x, 2, "g4");
        return x;
    }

    // ---- promises 6 to 10

    private static void whatIsSo() {
        Said.said(6, "no HOUSE");
        refusedBy("rule", RefusalsTest::none, (x, n) -> x.rule(n), NONE, 0, 1, 2);
        Said.said(6, "no such what");
        answers("rule(0)", RefusalsTest::least, x -> x.rule(0), 0);
        answers("rule(2)", RefusalsTest::least, x -> x.rule(2), 3);
        refusedBy("rule", RefusalsTest::some, (x, n) -> x.rule(n), NONE, -1, 3, LEAST, MOST);

        Said.said(7, "no such ones");
        answers("drink(1, 1), the last of two", RefusalsTest::least, x -> x.drink(1, 1), 5);
        answers("drink(5, 0), the last of six", RefusalsTest::full, x -> x.drink(5, 0), 0);
        answers("drink(0, 0), the first", RefusalsTest::full, x -> x.drink(0, 0), 9);
        refusedBy("drink of two", RefusalsTest::least, (x, n) -> x.drink(n, 0), NONE, -1, 2, LEAST, MOST);
        refusedBy("drink of six", RefusalsTest::full, (x, n) -> x.drink(n, 1), NONE, -1, 6);
        refusedBy("drink, what", RefusalsTest::some, (x, n) -> x.drink(0, n), NONE, -1, 2, LEAST, MOST);
        refusedBy("drink without a house", RefusalsTest::none, (x, n) -> x.drink(n, n), NONE, 0, 1);

        Said.said(8, "no such ones");
        answers("guest(0, 0), the only one", RefusalsTest::least, x -> x.guest(0, 0), 0);
        answers("guest(0, 3), the only one", RefusalsTest::least, x -> x.guest(0, 3), 0);
        answers("guest(5, 0), the last of six", RefusalsTest::full, x -> x.guest(5, 0), 0);
        refusedBy("guest of one", RefusalsTest::least, (x, n) -> x.guest(n, 0), THROWS, -1, 1, LEAST, MOST);
        refusedBy("guest of six", RefusalsTest::full, (x, n) -> x.guest(n, 1), THROWS, -1, 6);
        refusedBy("guest, what", RefusalsTest::some, (x, n) -> x.guest(1, n), THROWS, -1, 4, LEAST, MOST);
        refusedBy("guest without a house", RefusalsTest::none, (x, n) -> x.guest(n, n), THROWS, 0, 1, -1);
    }

    private static void lawsAndSnow() {
        Said.said(9, "no such one");
        answers("law(NONE) of none", BottleBefore::new, x -> bit(x.law(NONE)), YES);
        refusedBy("law of none", RefusalsTest::some, (x, n) -> bit(x.law(n)), NO, 0, -2);
        answers("law(1) of two", RefusalsTest::none, x -> bit(x.law(1)), YES);
        answers("law(NONE) of two", RefusalsTest::none, x -> x.law(NONE) ? x.count(5) : HIDDEN, NONE);
        refusedBy("law of two", RefusalsTest::none, (x, n) -> bit(x.law(n)), NO, 2, -2, LEAST, MOST);
        answers("law(3) of four", RefusalsTest::full, x -> x.law(3) ? x.count(5) : HIDDEN, 3);
        refusedBy("law of four", RefusalsTest::full, (x, n) -> bit(x.law(n)), NO, 4, -2, LEAST, MOST);

        Said.said(10, "out of bounds");
        answers("snow(0)", RefusalsTest::some, x -> x.snow(0) ? x.count(9) : NONE, 0);
        answers("snow(9)", RefusalsTest::some, x -> x.snow(9) ? x.count(9) : NONE, 9);
        refusedBy("snow", RefusalsTest::some, (x, n) -> bit(x.snow(n)), NO, -1, 10, LEAST, MOST);
        refusedBy("snow without a house", RefusalsTest::none, (x, n) -> bit(x.snow(n)), NO, -1, 10);
        Said.said(10, "it is so");
        refusedBy("snow at first", RefusalsTest::some, (x, n) -> bit(x.snow(n)), NO, 2);
        refusedBy("snow as set", RefusalsTest::none, (x, n) -> bit(x.snow(n)), NO, 4);
        answers("snow(2), it was set", RefusalsTest::none, x -> bit(x.snow(2)), YES);
    }

    // ---- promises 11 to 17

    private static void visitsAndMonths() {
        Said.said(11, "no such GUEST");
        answers("visit(0), the only one", RefusalsTest::least, x -> x.visit(0), 0);
        answers("visit(1), the last of two", () -> Due.house("dp0;dq9p60;g;g"), x -> x.visit(1), 0);
        answers("visit(5), the last of six", () -> Due.house("d;d;g;g;g;g;g;g"), x -> x.visit(5), 0);
        refusedBy("visit of one", RefusalsTest::least, (x, n) -> x.visit(n), NONE, -1, 1, LEAST, MOST);
        refusedBy("visit of two", RefusalsTest::some, (x, n) -> x.visit(n), NONE, -1, 2);
        refusedBy("visit of six", RefusalsTest::full, (x, n) -> x.visit(n), NONE, -1, 6);
        refusedBy("visit without a house", RefusalsTest::none, (x, n) -> x.visit(n), NONE, 0);

        Said.said(12, "no HOUSE");
        Said.refused("month()", RefusalsTest::none, x -> x.month(), NONE);
        answers("month()", RefusalsTest::least, x -> x.month(), 1);
        Said.said(12, "beyond 999");
        answers("MONTH", RefusalsTest::last, x -> x.count(7), 999);
        answers("month() again, from 998", RefusalsTest::last, x -> backToMonth(x, 998), 999);
        Said.refused("month() at 999", RefusalsTest::last, x -> x.month(), NONE);
    }

    private static long backToMonth(BottleBefore x, int month) {
        while (x.count(7) > month && x.undo() != NONE) {
            continue;
        }
        return x.count(7) == month ? x.month() : HIDDEN;
    }

    private static void hosts() {
        Said.said(13, "no such one");
        answers("host(1), the last of two", RefusalsTest::least, x -> bit(x.host(1)), YES);
        answers("host(5), the last of six", () -> Due.house("d;d;d;d;d;d;g"), x -> bit(x.host(5)), YES);
        answers("host(0), the first", () -> Due.house("sb1;d;d;g"), x -> bit(x.host(0)), YES);
        refusedBy("host of two", RefusalsTest::least, (x, n) -> bit(x.host(n)), NO, -1, 2, LEAST, MOST);
        refusedBy("host of six", () -> Due.house("d;d;d;d;d;d;g"), (x, n) -> bit(x.host(n)), NO, -1, 6);
        refusedBy("host without a house", RefusalsTest::none, (x, n) -> bit(x.host(n)), NO, 0, 1);
        Said.said(13, "it is the BOTTLE");
        refusedBy("host at first", RefusalsTest::least, (x, n) -> bit(x.host(n)), NO, 0);
        refusedBy("host as brought", () -> monthLater(some()), (x, n) -> bit(x.host(x.rule(0))), NO, 0);
        Said.said(13, "it did this MONTH");
        answers("it did", RefusalsTest::some, x -> x.count(11), 1);
        refusedBy("host, it did", RefusalsTest::some, (x, n) -> bit(x.host(n)), NO, 0, 1, 2);
        answers("host a MONTH later", () -> monthLater(some()), x -> bit(x.host(x.rule(0) == 0 ? 1 : 0)), YES);
        refusedBy("host in the last MONTH, it did", RefusalsTest::last, (x, n) -> bit(x.host(n)), NO, 0, 1, 2);
    }

    private static BottleBefore monthLater(BottleBefore x) {
        x.month();
        return x;
    }

    private static void paysAndPrices() {
        Supplier<BottleBefore> poor = () -> Due.house("d;d;gm0;gm49;gm98;gm99");
        Said.said(14, "no such GUEST");
        answers("pay(0, 1), the first of four", poor, x -> x.pay(0, 1), 1);
        answers("pay(1, 1), the last of two", RefusalsTest::some, x -> x.pay(1, 1), 16);
        refusedBy("pay of four", poor, (x, n) -> x.pay(n, 1), NONE, -1, 4, LEAST, MOST);
        refusedBy("pay of six", RefusalsTest::full, (x, n) -> x.pay(n, 1), NONE, -1, 6);
        refusedBy("pay without a house", RefusalsTest::none, (x, n) -> x.pay(n, 1), NONE, 0);
        Said.said(14, "out of bounds");
        answers("pay(0, 1)", poor, x -> x.pay(0, 1), 1);
        answers("pay(0, 50)", poor, x -> x.pay(0, 50), 50);
        refusedBy("pay", poor, (x, n) -> x.pay(0, n), NONE, 0, 51, -1, -50, LEAST, MOST);
        Said.said(14, "above 99");
        answers("pay(1, 50), just 99", poor, x -> x.pay(1, 50), 99);
        answers("pay(2, 1), just 99", poor, x -> x.pay(2, 1), 99);
        refusedBy("pay to 98", poor, (x, n) -> x.pay(2, n), NONE, 2, 50);
        refusedBy("pay to 99", poor, (x, n) -> x.pay(3, n), NONE, 1, 50);
        refusedBy("pay to 99 in the last MONTH", RefusalsTest::last, (x, n) -> x.pay(1, n), NONE, 1);

        Said.said(15, "no such DRINK");
        answers("price(1, 6), the last of two", RefusalsTest::least, x -> x.price(1, 6), 5);
        answers("price(5, 6), the last of six", RefusalsTest::full, x -> x.price(5, 6), 0);
        refusedBy("price of two", RefusalsTest::least, (x, n) -> x.price(n, 6), NONE, -1, 2, LEAST, MOST);
        refusedBy("price of six", RefusalsTest::full, (x, n) -> x.price(n, 6), NONE, -1, 6);
        refusedBy("price without a house", RefusalsTest::none, (x, n) -> x.price(n, 6), NONE, 0);
        Said.said(15, "out of bounds");
        answers("price(0, 0)", RefusalsTest::some, x -> x.price(0, 0) == 3 ? x.drink(0, 1) : NONE, 0);
        answers("price(0, 60)", RefusalsTest::some, x -> x.price(0, 60) == 3 ? x.drink(0, 1) : NONE, 60);
        refusedBy("price", RefusalsTest::some, (x, n) -> x.price(0, n), NONE, -1, 61, LEAST, MOST);
        Said.said(15, "it is so");
        refusedBy("price as told", RefusalsTest::least, (x, n) -> x.price(0, n), NONE, 5);
        refusedBy("price as set", RefusalsTest::some, (x, n) -> x.price(0, n), NONE, 3);
        answers("price(0, 1), as told, behind another", RefusalsTest::some, x -> x.price(0, 1), 3);
    }

    private static void yearsAndUndone() {
        Said.said(16, "no HOUSE");
        refusedBy("years", RefusalsTest::none, (x, n) -> x.years(n, 1L), NONE, 1, 60);
        Said.said(16, "out of bounds");
        Supplier<BottleBefore> snowless = () -> snowing(some(), 0);
        answers("years(1), no snow", snowless, x -> x.years(1, 3L), 1);
        answers("years(60), no snow", snowless, x -> x.years(60, 3L), 60);
        refusedBy("years", RefusalsTest::some, (x, n) -> x.years(n, 3L), NONE, 0, 61, -1, LEAST, MOST);
        refusedBy("years of the full one", RefusalsTest::full, (x, n) -> x.years(n, 3L), NONE, 0, 61);

        Said.said(17, "none");
        Said.refused("undo() without a house", RefusalsTest::none, x -> x.undo(), NONE);
        Said.refused("undo() in a new house", RefusalsTest::least, x -> x.undo(), NONE);
        answers("undo() of one", () -> monthLater(least()), x -> x.undo(), 0);
        Said.refused("undo() behind that", () -> undone(monthLater(least()), 1), x -> x.undo(), NONE);
        answers("undo(), the 40th", () -> undone(full(), 39), x -> x.undo(), 0);
        Said.refused("undo(), a 41st", () -> undone(full(), 40), x -> x.undo(), NONE);
    }

    private static BottleBefore snowing(BottleBefore x, int v) {
        x.snow(v);
        return x;
    }

    private static BottleBefore undone(BottleBefore x, int many) {
        for (int i = 0; i < many; i++) {
            x.undo();
        }
        return x;
    }

    // ---- promises 18 to 21, 26

    private static void bookAndSteps() {
        Said.said(18, "no such ones");
        answers("how long", RefusalsTest::full, x -> x.count(12), 60);
        answers("book(59, 0)", RefusalsTest::full, x -> x.book(59, 0) >= 0 ? YES : NO, YES);
        answers("book(2, 0), the first of three", RefusalsTest::some, x -> x.book(2, 0), 0);
        answers("book(2, 3), the first of three", RefusalsTest::some, x -> x.book(2, 3), 6);
        refusedBy("book of 60", RefusalsTest::full, (x, n) -> x.book(n, 0), HIDDEN, -1, 60, LEAST, MOST);
        refusedBy("book of 3", RefusalsTest::some, (x, n) -> x.book(n, 0), HIDDEN, -1, 3);
        refusedBy("book, empty", RefusalsTest::least, (x, n) -> x.book(n, 0), HIDDEN, -1, 0);
        refusedBy("book, what", RefusalsTest::some, (x, n) -> x.book(0, n), HIDDEN, -1, 4, LEAST, MOST);
        refusedBy("book without a house", RefusalsTest::none, (x, n) -> x.book(n, 0), HIDDEN, 0);

        Said.said(19, "no such ones");
        answers("step(3, 15, 0), the last of all", RefusalsTest::full, x -> x.step(3, 15, 0), 1);
        answers("step(3, 15, 1), the last of all", RefusalsTest::full, x -> x.step(3, 15, 1), NONE);
        answers("step(0, 2, 1) of three", RefusalsTest::some, x -> x.step(0, 2, 1), 1);
        answers("step(1, 0, 0) without a house", RefusalsTest::none, x -> x.step(1, 0, 0), 1);
        refusedBy("step, winter of four", RefusalsTest::full, (x, n) -> x.step(n, 0, 0), HIDDEN, -1, 4, LEAST, MOST);
        refusedBy("step, winter of one", RefusalsTest::some, (x, n) -> x.step(n, 0, 0), HIDDEN, -1, 1);
        refusedBy("step, winter of none", RefusalsTest::least, (x, n) -> x.step(n, 0, 0), HIDDEN, -1, 0);
        refusedBy("step, i of 16", RefusalsTest::full, (x, n) -> x.step(0, n, 0), HIDDEN, -1, 16, LEAST, MOST);
        refusedBy("step, i of three", RefusalsTest::some, (x, n) -> x.step(0, n, 0), HIDDEN, -1, 3);
        refusedBy("step, what", RefusalsTest::some, (x, n) -> x.step(0, 0, n), HIDDEN, -1, 2, LEAST, MOST);
    }

    private static void winters() {
        Said.said(20, "no such ones");
        answers("run(0, 0), the only one", RefusalsTest::some, x -> x.run(0, 0), NONE);
        answers("run(3, 0), the last of four", RefusalsTest::full, x -> x.run(3, 0) >= 0 ? YES : NO, YES);
        refusedBy("run of one", RefusalsTest::some, (x, n) -> x.run(n, 0), HIDDEN, -1, 1, LEAST, MOST);
        refusedBy("run of four", RefusalsTest::full, (x, n) -> x.run(n, 1), HIDDEN, -1, 4);
        refusedBy("run of none", RefusalsTest::least, (x, n) -> x.run(n, 0), HIDDEN, -1, 0);
        refusedBy("run, what", RefusalsTest::some, (x, n) -> x.run(0, n), HIDDEN, -1, 2, LEAST, MOST);
        Said.said(20, "no HOUSE");
        refusedBy("run", RefusalsTest::none, (x, n) -> x.run(1, n), HIDDEN, 0, 1);

        Said.said(21, "no such WINTER");
        answers("perform(0), the only one", RefusalsTest::some, x -> x.perform(0), 3);
        refusedBy("perform of one", RefusalsTest::some, (x, n) -> x.perform(n), NONE, -1, 1, LEAST, MOST);
        refusedBy("perform of four", RefusalsTest::full, (x, n) -> x.perform(n), NONE, -1, 4);
        refusedBy("perform of none", RefusalsTest::least, (x, n) -> x.perform(n), NONE, -1, 0);
        Said.said(21, "no HOUSE");
        refusedBy("perform", RefusalsTest::none, (x, n) -> x.perform(n), NONE, 0, 1);

        Said.said(26, "no such WINTER");
        answers("round(1), the last of two", () -> rounding(29), x -> x.round(1), 1);
        refusedBy("round of two", () -> rounding(29), (x, n) -> x.round(n), NONE, -1, 2, LEAST, MOST);
        refusedBy("round of none", RefusalsTest::least, (x, n) -> x.round(n), NONE, -1, 0);
        Said.said(26, "no HOUSE");
        refusedBy("round", RefusalsTest::none, (x, n) -> x.round(n), NONE, 0, 1);
        Said.said(26, "not within 30");
        answers("round(0), the first time", () -> rounding(0), x -> x.round(0), 1);
        answers("round(0), the 30th time", () -> rounding(29), x -> x.round(0), 30);
        Said.refused("round(0), the 31st time", () -> rounding(30), x -> x.round(0), NONE);
        Said.said(26, "a STEP can't be on the way");
        Said.refused("round(0), at once", () -> withWinter(least(), "g1"), x -> x.round(0), NONE);
        Said.refused("round(0), its last", () -> withWinter(least(), "g0;m;h0"), x -> x.round(0), NONE);
        Said.refused("round(0), the second time", () -> twice(), x -> x.round(0), NONE);
        Said.refused("round(0), MONTH 999", () -> withWinter(last(), "m"), x -> x.round(0), NONE);
    }

    /** The bottle is first as it is now behind the visit with so many ahead; and a winter of a month alone. */
    private static BottleBefore rounding(int ahead) {
        BottleBefore x = Due.holding(Due.house("dq0p0;dq9p0;g"), "y:n=" + ahead + "?0;y:9");
        Due.tell(x, 2, "g0");
        Due.tell(x, 2, "m");
        return x;
    }

    private static BottleBefore twice() {
        BottleBefore x = withWinter(Due.house("dq0p0;dq9p0;dq4p0;gh0"), "h1;g0");
        Said.is("run(0, 0), once it can", x.run(0, 0), NONE);
        return x;
    }

    private static BottleBefore withWinter(BottleBefore x, String text) {
        Due.tell(x, 2, text);
        return x;
    }

    // ---- promises 22 to 25

    private static void rows() {
        Said.said(22, "no HOUSE");
        refusedBy("best", RefusalsTest::none, (x, n) -> x.best(n), NONE, 0, 1);
        Said.said(22, "no such what");
        answers("best(0)", RefusalsTest::least, x -> x.best(0), 0);
        answers("best(1)", RefusalsTest::least, x -> x.best(1), 8);
        refusedBy("best", RefusalsTest::some, (x, n) -> x.best(n), NONE, -1, 2, LEAST, MOST);

        Said.said(23, "no HOUSE");
        refusedBy("comes", RefusalsTest::none, (x, n) -> x.comes(n, 0), NONE, 1, 4);
        Said.said(23, "out of bounds");
        answers("comes(1, 1)", RefusalsTest::least, x -> x.comes(1, 1), 8);
        answers("comes(4, 1)", RefusalsTest::least, x -> x.comes(4, 1), 32);
        refusedBy("comes", RefusalsTest::some, (x, n) -> x.comes(n, 0), NONE, 0, 5, -1, LEAST, MOST);
        Said.said(23, "no such what");
        answers("comes(4, 0)", RefusalsTest::least, x -> x.comes(4, 0), 0);
        refusedBy("comes, what", RefusalsTest::some, (x, n) -> x.comes(1, n), NONE, -1, 2, LEAST, MOST);
    }

    /** The second drink is brought by the visit with so many ahead alone. */
    private static BottleBefore bringing(int ahead) {
        return Due.holding(Due.house("dq0p0;dq9p0;g;g"), "y:n=" + ahead + "?9");
    }

    private static void soonestAndEnds() {
        Said.said(24, "not by four");
        answers("soonest(0, 0), at once", () -> bringing(3), x -> x.soonest(0, 0), 0);
        answers("soonest(1, 0), by four", () -> bringing(3), x -> x.soonest(1, 0), 4);
        answers("soonest(1, 1), by four", () -> bringing(3), x -> x.soonest(1, 1), 0);
        refusedBy("soonest, by five", () -> bringing(4), (x, n) -> x.soonest(1, n), NONE, 0, 1);
        Said.said(24, "no such DRINK");
        answers("soonest(1, 0), the last of two", () -> bringing(0), x -> x.soonest(1, 0), 1);
        refusedBy("soonest of two", RefusalsTest::least, (x, n) -> x.soonest(n, 0), NONE, -1, 2, LEAST, MOST);
        refusedBy("soonest of six", RefusalsTest::full, (x, n) -> x.soonest(n, 1), NONE, -1, 6);
        refusedBy("soonest without a house", RefusalsTest::none, (x, n) -> x.soonest(n, 0), NONE, 0);
        Said.said(24, "no such what");
        refusedBy("soonest, what", RefusalsTest::some, (x, n) -> x.soonest(1, n), NONE, -1, 2, LEAST, MOST);

        Said.said(25, "not by four");
        answers("ends(0), by one", () -> bringing(0), x -> x.ends(0), 1);
        answers("ends(0), by four", () -> bringing(3), x -> x.ends(0), 4);
        answers("ends(1), by four", () -> bringing(3), x -> x.ends(1), 0);
        refusedBy("ends, by five", () -> bringing(4), (x, n) -> x.ends(n), NONE, 0, 1);
        Said.said(25, "no HOUSE");
        refusedBy("ends", RefusalsTest::none, (x, n) -> x.ends(n), NONE, 0, 1);
        Said.said(25, "no such what");
        refusedBy("ends, what", RefusalsTest::some, (x, n) -> x.ends(n), NONE, -1, 2, LEAST, MOST);
    }

    // ---- promises 27 to 30

    private static void sightings() {
        Said.said(27, "no such ones");
        answers("seen(0, 0, 5, NONE), HANDED ON", RefusalsTest::least, x -> x.seen(0, 0, 5, NONE), 1);
        answers("seen(1, 2, 5, 2), the last ones", RefusalsTest::some, x -> x.seen(1, 2, 5, 2), 2);
        answers("seen(5, 5, 5, 5), the last ones", () -> Due.house("d;d;d;d;d;d;g;g;g;g;g;g"),
                x -> x.seen(5, 5, 5, 5), 1);
        refusedBy("seen, guest", RefusalsTest::some, (x, n) -> x.seen(n, 0, 5, 0), NONE, -1, 2, LEAST, MOST);
        refusedBy("seen, got", RefusalsTest::some, (x, n) -> x.seen(0, n, 5, 0), NONE, -1, 3, LEAST, MOST);
        refusedBy("seen, brought", RefusalsTest::some, (x, n) -> x.seen(0, 0, 5, n), NONE, -2, 3, LEAST, MOST);
        refusedBy("seen without a house", RefusalsTest::none, (x, n) -> x.seen(0, 0, 5, n), NONE, 0, NONE);
        Said.said(27, "out of bounds");
        answers("seen(0, 0, 0, 0)", RefusalsTest::some, x -> x.seen(0, 0, 0, 0), 2);
        answers("seen(0, 0, 99, 0)", RefusalsTest::some, x -> x.seen(0, 0, 99, 0), 2);
        refusedBy("seen, money", RefusalsTest::some, (x, n) -> x.seen(0, 0, n, 0), NONE, -1, 100, LEAST, MOST);
        Said.said(27, "there are ten");
        answers("seen, the tenth", () -> sighted(9), x -> x.seen(0, 0, 5, 1), 10);
        Said.refused("seen, an eleventh", () -> sighted(10), x -> x.seen(0, 0, 5, 1), NONE);
        Said.refused("seen, an eleventh of another", RefusalsTest::full, x -> x.seen(5, 0, 5, 1), NONE);

        Said.said(28, "no such one");
        answers("fits(0, NONE)", RefusalsTest::some, x -> x.fits(0, NONE), 30);
        answers("fits(0, 0)", RefusalsTest::some, x -> x.fits(0, 0), 0);
        answers("fits(0, 29)", RefusalsTest::some, x -> x.fits(0, 29), 29);
        refusedBy("fits, i of 30", RefusalsTest::some, (x, n) -> x.fits(0, n), NONE, 30, -2, LEAST, MOST);
        answers("fits(0, NONE), of none", RefusalsTest::unfitting, x -> x.fits(0, NONE), 0);
        refusedBy("fits, i of none", RefusalsTest::unfitting, (x, n) -> x.fits(0, n), NONE, 0, -2);
        Said.said(28, "no such GUEST");
        answers("fits(1, NONE), the last of two", () -> Due.house("d;d;g;g"), x -> x.fits(1, NONE), 20);
        refusedBy("fits of two", RefusalsTest::some, (x, n) -> x.fits(n, NONE), NONE, -1, 2, LEAST, MOST);
        refusedBy("fits without a house", RefusalsTest::none, (x, n) -> x.fits(n, NONE), NONE, 0);

        Said.said(29, "nothing fits");
        Said.refused("serve(0, 5)", RefusalsTest::unfitting, x -> x.serve(0, 5), NONE);
        Said.said(29, "no such GUEST");
        answers("serve(1, 5), the last of two", () -> Due.house("d;d;g;g"), x -> x.serve(1, 5), 0);
        refusedBy("serve of two", RefusalsTest::some, (x, n) -> x.serve(n, 5), NONE, -1, 2, LEAST, MOST);
        refusedBy("serve without a house", RefusalsTest::none, (x, n) -> x.serve(n, 5), NONE, 0);
        Said.said(29, "out of bounds");
        answers("serve(0, 0)", RefusalsTest::least, x -> x.serve(0, 0), 0);
        answers("serve(0, 99)", RefusalsTest::least, x -> x.serve(0, 99), 0);
        refusedBy("serve, money", RefusalsTest::some, (x, n) -> x.serve(0, n), NONE, -1, 100, LEAST, MOST);
    }

    private static BottleBefore sighted(int many) {
        BottleBefore x = least();
        for (int i = 0; i < many; i++) {
            x.seen(0, 0, 5, 0);
        }
        return x;
    }

    /** It brought what it could not pay. */
    private static BottleBefore unfitting() {
        BottleBefore x = Due.house("dp1;dp60;g");
        x.seen(0, 0, 59, 1);
        return x;
    }

    private static void who() {
        Supplier<BottleBefore> six = () -> Due.house("d;d;g;g;g;g;g;g");
        Said.said(30, "no such one");
        answers("who(0, 3, NONE)", six, x -> x.who(0, 3, NONE), 120);
        answers("who(0, 3, 0)", six, x -> x.who(0, 3, 0), 12);
        answers("who(0, 3, 119)", six, x -> x.who(0, 3, 119), 543);
        refusedBy("who, i of 120", six, (x, n) -> x.who(0, 3, n), NONE, 120, -2, LEAST, MOST);
        answers("who(1, 1, NONE), none", six, x -> x.who(1, 1, NONE), 0);
        refusedBy("who, i of none", six, (x, n) -> x.who(1, 1, n), NONE, 0, -2);
        Said.said(30, "no such DRINK");
        refusedBy("who of two", six, (x, n) -> x.who(n, 1, NONE), NONE, -1, 2, LEAST, MOST);
        refusedBy("who of six", RefusalsTest::full, (x, n) -> x.who(n, 1, NONE), NONE, -1, 6);
        refusedBy("who without a house", RefusalsTest::none, (x, n) -> x.who(n, 1, NONE), NONE, 0);
        Said.said(30, "out of bounds");
        answers("who(0, 1, NONE)", six, x -> x.who(0, 1, NONE), 6);
        refusedBy("who, k", six, (x, n) -> x.who(0, n, NONE), NONE, 0, 4, -1, LEAST, MOST);
    }

    // ---- promises 31 to 34

    private static void games() {
        Said.said(31, "no such ones");
        answers("game(0, 1, 2, 2, 0), the last ones", () -> Due.house("d;d;dp60;g;g"), x -> x.game(0, 1, 2, 2, 0), -15);
        answers("game(1, 0, 0, 0, 1), the first ones", () -> Due.house("d;d;d;g;gl1"), x -> x.game(1, 0, 0, 0, 1), 7);
        refusedBy("game, one", RefusalsTest::some, (x, n) -> x.game(n, 1, 0, 0, 0), HIDDEN, -1, 2, LEAST, MOST);
        refusedBy("game, other", RefusalsTest::some, (x, n) -> x.game(1, n, 0, 0, 0), HIDDEN, -1, 2, LEAST, MOST);
        refusedBy("game, x", RefusalsTest::some, (x, n) -> x.game(0, 1, n, 0, 0), HIDDEN, -1, 3, LEAST, MOST);
        refusedBy("game, y", RefusalsTest::some, (x, n) -> x.game(0, 1, 0, n, 0), HIDDEN, -1, 3, LEAST, MOST);
        refusedBy("game, what", RefusalsTest::some, (x, n) -> x.game(0, 1, 0, 0, n), HIDDEN, -1, 2, LEAST, MOST);
        refusedBy("game without a house", RefusalsTest::none, (x, n) -> x.game(0, 1, 0, 0, n), HIDDEN, 0, 1);
        Said.said(31, "alike");
        refusedBy("game", RefusalsTest::some, (x, n) -> x.game(n, n, 0, 1, 0), HIDDEN, 0, 1);

        Supplier<BottleBefore> free = () -> Due.house("dp0;dp0;dp0;dp0;dp0;dp0;g;g");
        Said.said(32, "no such one");
        answers("rests(0, 1, NONE)", free, x -> x.rests(0, 1, NONE), 36);
        answers("rests(0, 1, 0)", free, x -> x.rests(0, 1, 0), 0);
        answers("rests(0, 1, 35)", free, x -> x.rests(0, 1, 35), 55);
        refusedBy("rests, i of 36", free, (x, n) -> x.rests(0, 1, n), NONE, 36, -2, LEAST, MOST);
        Said.said(32, "no such GUESTS");
        refusedBy("rests, one", free, (x, n) -> x.rests(n, 1, NONE), NONE, -1, 2, LEAST, MOST);
        refusedBy("rests, other", free, (x, n) -> x.rests(1, n, NONE), NONE, -1, 2, LEAST, MOST);
        refusedBy("rests without a house", RefusalsTest::none, (x, n) -> x.rests(0, 1, n), NONE, 0, NONE);
        Said.said(32, "alike");
        refusedBy("rests", free, (x, n) -> x.rests(n, n, NONE), NONE, 0, 1);
    }

    private static void dealtAndOdds() {
        Said.said(33, "there are fewer DRINKS than GUESTS");
        answers("dealt(0), two of two", () -> Due.house("d;d;g;g"), x -> x.dealt(0), 1);
        refusedBy("dealt, two of three", () -> Due.house("d;d;g;g;g"), (x, n) -> x.dealt(n), NONE, 0, 1);
        answers("dealt(0), six of six", () -> Due.house("d;d;d;d;d;d;g;g;g;g;g;g"), x -> x.dealt(0), 12345);
        refusedBy("dealt, five of six", () -> Due.house("d;d;d;d;d;g;g;g;g;g;g"), (x, n) -> x.dealt(n), NONE, 0, 1);
        Said.said(33, "no HOUSE");
        refusedBy("dealt", RefusalsTest::none, (x, n) -> x.dealt(n), NONE, 0, 1);
        Said.said(33, "no such what");
        answers("dealt(1)", RefusalsTest::least, x -> x.dealt(1), 8);
        refusedBy("dealt, what", RefusalsTest::some, (x, n) -> x.dealt(n), NONE, -1, 2, LEAST, MOST);

        Said.said(34, "no such DRINK");
        answers("odds(1, 1), the last of two", RefusalsTest::least, x -> x.odds(1, 1), 0);
        refusedBy("odds of two", RefusalsTest::least, (x, n) -> x.odds(n, 1), NONE, -1, 2, LEAST, MOST);
        refusedBy("odds of six", RefusalsTest::full, (x, n) -> x.odds(n, 1), NONE, -1, 6);
        refusedBy("odds without a house", RefusalsTest::none, (x, n) -> x.odds(n, 0), NONE, 0);
        Said.said(34, "out of bounds");
        answers("odds(0, 0)", RefusalsTest::least, x -> x.odds(0, 0), 1000000);
        answers("odds(0, 4)", RefusalsTest::least, x -> x.odds(0, 4), 1000000);
        refusedBy("odds, n", RefusalsTest::some, (x, n) -> x.odds(1, n), NONE, -1, 5, LEAST, MOST);
    }

    // ---- promises 35 to 43

    private static void looks() {
        Said.said(35, "no such ones");
        answers("makes(0, 1), the last ones", RefusalsTest::least, x -> x.makes(0, 1), 0);
        refusedBy("makes, guest", RefusalsTest::some, (x, n) -> x.makes(n, 0), HIDDEN, -1, 2, LEAST, MOST);
        refusedBy("makes, drink", RefusalsTest::some, (x, n) -> x.makes(0, n), HIDDEN, -1, 3, LEAST, MOST);
        refusedBy("makes without a house", RefusalsTest::none, (x, n) -> x.makes(0, n), HIDDEN, 0);
        Said.said(36, "no such GUEST");
        answers("glad(0), the only one", RefusalsTest::least, x -> x.glad(0), 8);
        refusedBy("glad of one", RefusalsTest::least, (x, n) -> x.glad(n), NONE, -1, 1, LEAST, MOST);
        refusedBy("glad of six", RefusalsTest::full, (x, n) -> x.glad(n), NONE, -1, 6);
        refusedBy("glad without a house", RefusalsTest::none, (x, n) -> x.glad(n), NONE, 0);
        Said.said(37, "no HOUSE");
        refusedBy("all", RefusalsTest::none, (x, n) -> x.all(n), NONE, 0, 1, 2, 3, 4, 5, 6, 7);
        Said.said(37, "no such what");
        answers("all(0)", RefusalsTest::least, x -> x.all(0), 0);
        answers("all(7)", RefusalsTest::least, x -> x.all(7), 0);
        refusedBy("all", RefusalsTest::some, (x, n) -> x.all(n), NONE, -1, 8, LEAST, MOST);
        Said.said(38, "no such GUEST");
        answers("affords(0), the only one", RefusalsTest::least, x -> x.affords(0), 3);
        refusedBy("affords of one", RefusalsTest::least, (x, n) -> x.affords(n), NONE, -1, 1, LEAST, MOST);
        refusedBy("affords of six", RefusalsTest::full, (x, n) -> x.affords(n), NONE, -1, 6);
        refusedBy("affords without a house", RefusalsTest::none, (x, n) -> x.affords(n), NONE, 0);
        Said.said(39, "no such DRINK");
        answers("brought(1), the last of two", RefusalsTest::least, x -> x.brought(1), 0);
        refusedBy("brought of two", RefusalsTest::least, (x, n) -> x.brought(n), NONE, -1, 2, LEAST, MOST);
        refusedBy("brought of six", RefusalsTest::full, (x, n) -> x.brought(n), NONE, -1, 6);
        refusedBy("brought without a house", RefusalsTest::none, (x, n) -> x.brought(n), NONE, 0);
        Said.said(40, "not within 99");
        answers("saves(0, 1), the longest", () -> Due.house("sw1;d;dp60;gm0"), x -> x.saves(0, 1), 60);
        Said.refused("saves(0, 1), no WAGES", () -> Due.house("sw0;d;dp60;gm59"), x -> x.saves(0, 1), NONE);
        answers("saves(0, 1), no WAGES, but enough", () -> Due.house("sw0;d;dp60;gm60"), x -> x.saves(0, 1), 0);
        Said.said(40, "no such ones");
        refusedBy("saves, guest", RefusalsTest::some, (x, n) -> x.saves(n, 0), NONE, -1, 2, LEAST, MOST);
        refusedBy("saves, drink", RefusalsTest::some, (x, n) -> x.saves(0, n), NONE, -1, 3, LEAST, MOST);
        refusedBy("saves without a house", RefusalsTest::none, (x, n) -> x.saves(n, n), NONE, 0);
        Said.said(43, "others");
        answers("count(0)", RefusalsTest::some, x -> x.count(0), 2);
        answers("count(13)", RefusalsTest::some, x -> x.count(13), 7);
        refusedBy("count", RefusalsTest::some, (x, n) -> x.count(n), HIDDEN, -1, 14, LEAST, MOST);
        refusedBy("count without a house", RefusalsTest::none, (x, n) -> x.count(n), HIDDEN, -1, 14);
    }

    private static void images() {
        Said.said(41, "no HOUSE");
        Said.refused("image()", RefusalsTest::none, x -> x.image(), NONE);
        answers("image(), no VISITS yet", RefusalsTest::least, x -> x.image(), 0);
        Said.said(42, "no IMAGE of this HOUSE");
        Said.refused("back() without a house", RefusalsTest::none, x -> x.back(), NONE);
        Said.refused("back(), none was made", RefusalsTest::least, x -> x.back(), NONE);
        Said.refused("back(), none was made, with acts", () -> monthLater(least()), x -> x.back(), NONE);
        Said.refused("back(), of another house", () -> anotherHouse(), x -> x.back(), NONE);
        answers("back()", RefusalsTest::some, x -> x.back(), 2);
    }

    /** The same text again is another house, too. */
    private static BottleBefore anotherHouse() {
        BottleBefore x = least();
        x.visit(0);
        x.image();
        Due.tell(x, 0, "d;d;g");
        x.month();
        return x;
    }
}
