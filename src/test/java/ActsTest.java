import java.math.BigInteger;
import java.util.NoSuchElementException;

/** Promises 6 to 8, 11 to 18, 21, 41 to 43: what is so, the acts, the guest book, what is undone, images. */
public final class ActsTest {
    private static final int NONE = BottleBefore.NONE;
    private static final int HIDDEN = BottleBefore.HIDDEN;
    private static final String HOUSE = "sb1w4j2;dq2p1;dq6p5;dq9p12;gl2m20h5;gl0m3h5";

    public static void main(String[] args) {
        whatIsSo();
        usual();
        joyAndMood();
        bringing();
        months();
        lastMonth();
        hosts();
        pays();
        prices();
        years();
        undoing();
        undoingAll();
        bookOfSixty();
        bookUndone();
        performing();
        images();
        counts();
        Due.close();
    }

    private static boolean throwsNoSuch(BottleBefore x, int guest, int what) {
        try {
            x.guest(guest, what);
            return false;
        } catch (NoSuchElementException e) {
            return true;
        }
    }

    private static void guestIs(int promise, BottleBefore x, int guest, int money, int mood, int joy) {
        Due.due(promise, "MONEY of " + guest, x.guest(guest, 1), money);
        Due.due(promise, "MOOD of " + guest, x.guest(guest, 2), mood);
        Due.due(promise, "JOY of " + guest, x.guest(guest, 3), joy);
    }

    private static void lineIs(BottleBefore x, int i, int guest, int drank, int brought, int joy) {
        Due.due(18, "book(" + i + ", 0)", x.book(i, 0), guest);
        Due.due(18, "book(" + i + ", 1)", x.book(i, 1), drank);
        Due.due(18, "book(" + i + ", 2)", x.book(i, 2), brought);
        Due.due(18, "book(" + i + ", 3)", x.book(i, 3), joy);
    }

    private static void whatIsSo() {
        BottleBefore x = Due.house(HOUSE);
        int[] rules = {1, 4, 2};
        for (int i = 0; i < 3; i++) {
            Due.due(6, "rule(" + i + ")", x.rule(i), rules[i]);
        }
        Due.due(6, "rule(3)", x.rule(3), NONE);
        Due.due(6, "rule(-1)", x.rule(-1), NONE);
        Due.due(7, "drink(0, 0)", x.drink(0, 0), 2);
        Due.due(7, "drink(0, 1)", x.drink(0, 1), 1);
        Due.due(7, "drink(2, 0)", x.drink(2, 0), 9);
        Due.due(7, "drink(2, 1)", x.drink(2, 1), 12);
        Due.due(7, "drink(3, 0)", x.drink(3, 0), NONE);
        Due.due(7, "drink(-1, 0)", x.drink(-1, 0), NONE);
        Due.due(7, "drink(0, 2)", x.drink(0, 2), NONE);
        Due.due(7, "drink(0, -1)", x.drink(0, -1), NONE);
        Due.due(8, "guest(0, 0)", x.guest(0, 0), 2);
        Due.due(8, "guest(1, 0)", x.guest(1, 0), 0);
        guestIs(8, x, 0, 20, 5, 0);
        guestIs(8, x, 1, 3, 5, 0);
        Due.due(8, "guest(2, 0) throws", throwsNoSuch(x, 2, 0), true);
        Due.due(8, "guest(-1, 0) throws", throwsNoSuch(x, -1, 0), true);
        Due.due(8, "guest(0, 4) throws", throwsNoSuch(x, 0, 4), true);
        Due.due(8, "guest(0, -1) throws", throwsNoSuch(x, 0, -1), true);
        Due.due(8, "guest(0, 0) without a house throws", throwsNoSuch(new BottleBefore(), 0, 0), true);
        Due.due(6, "rule(1) without a house", new BottleBefore().rule(1), NONE);
        Due.due(7, "drink(0, 0) without a house", new BottleBefore().drink(0, 0), NONE);
    }

    private static void usual() {
        BottleBefore x = Due.house("d;d;g");
        Due.due(6, "rule(0), not told", x.rule(0), 0);
        Due.due(6, "rule(1), not told", x.rule(1), 5);
        Due.due(6, "rule(2), not told", x.rule(2), 3);
        Due.due(7, "drink(1, 0), not told", x.drink(1, 0), 5);
        Due.due(7, "drink(1, 1), not told", x.drink(1, 1), 5);
        Due.due(8, "guest(0, 0), not told", x.guest(0, 0), 0);
        guestIs(8, x, 0, 20, 5, 0);
    }

    private static void mood(String quality, int more, int like, int mood, int want) {
        BottleBefore x = Due.house("sj" + more + ";dq" + quality + "p0;dq0p60;gl" + like + "h" + mood);
        x.visit(0);
        Due.due(11, "MOOD " + mood + " by " + quality + " and " + more, x.guest(0, 2), want);
    }

    private static void joyAndMood() {
        mood("6", 0, 1, 5, 6);
        mood("5", 9, 1, 5, 5);
        mood("5", 1, 0, 5, 6);
        mood("4", 0, 1, 5, 5);
        mood("3", 0, 1, 5, 4);
        mood("3", 1, 0, 5, 5);
        mood("9", 9, 0, 9, 9);
        mood("9", 9, 0, 8, 9);
        mood("0", 0, 0, 0, 0);
        mood("0", 0, 0, 1, 0);
    }

    private static void bringing() {
        BottleBefore x = Due.house(HOUSE);
        Due.due(11, "visit(2)", x.visit(2), NONE);
        Due.due(11, "visit(-1)", x.visit(-1), NONE);
        Due.due(43, "count(13), as refused", x.count(13), 0);
        // 6 and MOOD 6: wishes 6.
        Due.due(11, "visit(0)", x.visit(0), 1);
        guestIs(11, x, 0, 15, 6, 6);
        lineIs(x, 0, 0, 1, 1, 6);
        // It wishes 6, but can pay the first alone.
        Due.due(11, "visit(1)", x.visit(1), 0);
        guestIs(11, x, 1, 2, 6, 6);
        lineIs(x, 0, 1, 1, 0, 6);
        lineIs(x, 1, 0, 1, 1, 6);
        // 2 and MOOD 5 (sour by it): wishes 3, the first is nearest.
        Due.due(11, "visit(0), sour", x.visit(0), 0);
        guestIs(11, x, 0, 14, 5, 8);
        // It likes it: JOY 4 leaves MOOD as it is, 2 and 6: wishes 4, pays 1.
        Due.due(11, "visit(1)", x.visit(1), 0);
        guestIs(11, x, 1, 1, 6, 10);

        BottleBefore ties = Due.holding(Due.house("dq4p3;dq6p2;dq6p2;dq5p50;dq4p2;g"), "y:5");
        Due.due(11, "of several the cheapest, then the lowest", ties.visit(0), 1);
        Due.due(11, "MONEY as much as PRICE", Due.holding(Due.house("dq0p9;dq9p20;g"), "y:9").visit(0), 1);
        Due.due(11, "MONEY short of PRICE", Due.holding(Due.house("dq0p9;dq9p21;g"), "y:9").visit(0), 0);

        BottleBefore poor = Due.house("sb1;dq9p1;dq8p2;gm0");
        Due.due(11, "visit(0), HANDED ON", poor.visit(0), 1);
        guestIs(11, poor, 0, 0, 6, 8);
        lineIs(poor, 0, 0, 1, NONE, 8);
        Due.due(11, "visit(0) without a house", new BottleBefore().visit(0), NONE);
    }

    private static void months() {
        BottleBefore x = Due.house("sw30;d;d;gm0;gm98;gm69");
        Due.due(12, "month()", x.month(), 1);
        Due.due(12, "WAGES", x.guest(0, 1), 30);
        Due.due(12, "WAGES, 99 at most", x.guest(1, 1), 99);
        Due.due(12, "WAGES, just 99", x.guest(2, 1), 99);
        Due.due(12, "month()", x.month(), 2);
        Due.due(12, "WAGES", x.guest(0, 1), 60);
        Due.due(43, "count(7)", x.count(7), 2);
        Due.due(12, "month() without a house", new BottleBefore().month(), NONE);
    }

    private static void lastMonth() {
        BottleBefore x = Due.house("sw0;d;dq9;g");
        Due.tell(x, 2, "m;m;m;m;m;m;m;m;m;m;m;m;m;m;m;m");
        Due.tell(x, 2, "g0;m;g0");
        for (int i = 0; i < 62; i++) {
            Due.due(21, "perform(0)", x.perform(0), 16);
        }
        Due.due(20, "run(0, 0), seven are left", x.run(0, 0), 7);
        Due.due(26, "round(0), a step can't be", x.round(0), NONE);
        Due.due(21, "perform(0), seven are left", x.perform(0), 7);
        Due.due(43, "count(7)", x.count(7), 999);
        Due.due(12, "month(), beyond 999", x.month(), NONE);
        Due.due(20, "run(1, 0)", x.run(1, 0), 1);
        Due.due(20, "run(1, 1)", x.run(1, 1), 8);
        x.host(1);
        x.snow(9);
        int visits = x.years(60, 5L);
        Due.due(16, "years, no MONTH goes by", x.count(7), 999);
        Due.due(16, "VISITS by them", x.count(6), visits);
        Due.due(13, "the HOST can't again", x.host(0) || x.host(1), false);
        yearsAtTheLastMonth(x);
    }

    /** By seed 0 the first draws of 10 are below 9: nobody comes. */
    private static void yearsAtTheLastMonth(BottleBefore x) {
        int visits = x.image();
        x.back();
        int bottle = x.rule(0);
        Due.due(16, "years(1), no MONTH can go by", x.years(1, 0L), 0);
        Due.due(16, "it is one ACT", x.count(13), 1);
        Due.due(16, "MONTH", x.count(7), 999);
        Due.due(17, "undo(), nothing changes", x.undo(), 0);
        Due.due(17, "undo(), none", x.undo(), NONE);
        Due.due(17, "MONTH", x.count(7), 999);
        Due.due(17, "the HOST put", x.count(11), 1);
        int more = x.years(30, 0L);
        Due.due(16, "some come, some don't", more > 0 && more < 30, true);
        Due.due(16, "VISITS", x.count(6), visits + more);
        Due.due(16, "each of 30 is one ACT", x.count(13), 30);
        for (int left = 29; left >= 0; left--) {
            Due.due(17, "undo() of 30", x.undo(), left);
        }
        Due.due(17, "VISITS", x.count(6), visits);
        Due.due(17, "the BOTTLE", x.rule(0), bottle);
        x.years(60, 0L);
        Due.due(16, "40 at most", x.count(13), 40);
        x.back();
        Due.due(12, "month() that can't be is no ACT", x.month(), NONE);
        Due.due(21, "perform(0)", x.perform(0), 0);
        Due.due(43, "count(13)", x.count(13), 0);
    }

    private static void hosts() {
        BottleBefore x = Due.house(HOUSE);
        Due.due(13, "host(3)", x.host(3), false);
        Due.due(13, "host(-1)", x.host(-1), false);
        Due.due(13, "host(1), it is the BOTTLE", x.host(1), false);
        Due.due(43, "count(11)", x.count(11), 0);
        Due.due(13, "host(2)", x.host(2), true);
        Due.due(6, "rule(0)", x.rule(0), 2);
        Due.due(43, "count(11)", x.count(11), 1);
        Due.due(13, "host(0), it did", x.host(0), false);
        x.visit(1);
        Due.due(13, "host(2), it did", x.host(2), false);
        x.month();
        Due.due(43, "count(11)", x.count(11), 0);
        Due.due(13, "host(2), another MONTH", x.host(2), true);
        Due.due(13, "host(0) without a house", new BottleBefore().host(0), false);
    }

    private static void pays() {
        BottleBefore x = Due.house(HOUSE);
        Due.due(14, "pay(1, 1)", x.pay(1, 1), 4);
        Due.due(14, "pay(1, 50)", x.pay(1, 50), 54);
        Due.due(14, "pay(1, 46), above 99", x.pay(1, 46), NONE);
        Due.due(14, "pay(1, 45)", x.pay(1, 45), 99);
        Due.due(14, "pay(0, 0)", x.pay(0, 0), NONE);
        Due.due(14, "pay(0, 51)", x.pay(0, 51), NONE);
        Due.due(14, "pay(0, -1)", x.pay(0, -1), NONE);
        Due.due(14, "pay(0, most)", x.pay(0, Integer.MAX_VALUE), NONE);
        Due.due(14, "pay(2, 1)", x.pay(2, 1), NONE);
        Due.due(14, "pay(-1, 1)", x.pay(-1, 1), NONE);
        Due.due(8, "guest(0, 1)", x.guest(0, 1), 20);
        Due.due(43, "count(13)", x.count(13), 3);
    }

    private static void prices() {
        BottleBefore x = Due.house(HOUSE);
        Due.due(15, "price(2, 60)", x.price(2, 60), 12);
        Due.due(15, "price(2, 60), it is so", x.price(2, 60), NONE);
        Due.due(15, "price(2, 0)", x.price(2, 0), 60);
        Due.due(7, "drink(2, 1)", x.drink(2, 1), 0);
        Due.due(15, "price(2, 61)", x.price(2, 61), NONE);
        Due.due(15, "price(2, -1)", x.price(2, -1), NONE);
        Due.due(15, "price(3, 1)", x.price(3, 1), NONE);
        Due.due(15, "price(-1, 1)", x.price(-1, 1), NONE);
        Due.due(43, "count(13)", x.count(13), 2);
    }

    private static BigInteger stirred(BigInteger x) {
        BigInteger all = BigInteger.ONE.shiftLeft(64);
        return x.multiply(new BigInteger("6364136223846793005")).add(new BigInteger("1442695040888963407")).mod(all);
    }

    private static int drawn(BigInteger x, int of) {
        return x.shiftRight(33).mod(BigInteger.valueOf(of)).intValue();
    }

    private static void years() {
        for (long seed : new long[] {0, 1, -1, 42, Long.MIN_VALUE, Long.MAX_VALUE, 123456789012345L}) {
            BottleBefore x = Due.house(HOUSE + ";gl1m40");
            BottleBefore byHand = Due.house(HOUSE + ";gl1m40");
            int visits = 0;
            BigInteger at = new BigInteger(Long.toUnsignedString(seed));
            for (int i = 0; i < 30; i++) {
                at = stirred(at);
                if (drawn(at, 10) < 2) {
                    byHand.month();
                } else {
                    at = stirred(at);
                    byHand.visit(drawn(at, 3));
                    visits++;
                }
            }
            Due.due(16, "years(30, " + seed + ")", x.years(30, seed), visits);
            for (int g = 0; g < 3; g++) {
                guestIs(16, x, g, byHand.guest(g, 1), byHand.guest(g, 2), byHand.guest(g, 3));
            }
            for (int i = 0; i < visits; i++) {
                lineIs(x, i, byHand.book(i, 0), byHand.book(i, 1), byHand.book(i, 2), byHand.book(i, 3));
            }
            Due.due(16, "count(7)", x.count(7), 30 - visits);
            Due.due(16, "each is one ACT", x.count(13), 30);
        }
        BottleBefore x = Due.house(HOUSE);
        Due.due(16, "years(0)", x.years(0, 1L), NONE);
        Due.due(16, "years(61)", x.years(61, 1L), NONE);
        Due.due(16, "years(-1)", x.years(-1, 1L), NONE);
        Due.due(16, "count(13), as refused", x.count(13), 0);
        x.snow(0);
        Due.due(16, "years(1), no snow", x.years(1, 9L), 1);
        Due.due(16, "count(13)", x.count(13), 1);
        Due.due(16, "years(60), no snow", x.years(60, 9L), 60);
        Due.due(16, "count(13), 40 at most", x.count(13), 40);
        Due.due(16, "years(1) without a house", new BottleBefore().years(1, 1L), NONE);
    }

    private static void undoing() {
        BottleBefore x = Due.house(HOUSE);
        Due.due(17, "undo(), none", x.undo(), NONE);
        x.visit(0);
        x.visit(1);
        x.host(2);
        x.month();
        x.pay(1, 7);
        x.price(0, 9);
        Due.due(17, "undo() price", x.undo(), 5);
        Due.due(17, "drink(0, 1)", x.drink(0, 1), 1);
        Due.due(17, "undo() pay", x.undo(), 4);
        Due.due(17, "guest(1, 1)", x.guest(1, 1), 6);
        Due.due(17, "undo() month", x.undo(), 3);
        Due.due(17, "count(7)", x.count(7), 0);
        Due.due(17, "count(11), the HOST did", x.count(11), 1);
        guestIs(17, x, 0, 15, 6, 6);
        guestIs(17, x, 1, 2, 6, 6);
        Due.due(17, "undo() host", x.undo(), 2);
        Due.due(17, "rule(0)", x.rule(0), 0);
        Due.due(17, "count(11)", x.count(11), 0);
        Due.due(17, "undo() visit", x.undo(), 1);
        Due.due(17, "rule(0)", x.rule(0), 1);
        guestIs(17, x, 1, 3, 5, 0);
        Due.due(17, "count(6)", x.count(6), 1);
        Due.due(17, "count(12)", x.count(12), 1);
        lineIs(x, 0, 0, 1, 1, 6);
        Due.due(17, "undo() visit", x.undo(), 0);
        guestIs(17, x, 0, 20, 5, 0);
        Due.due(17, "book(0, 0)", x.book(0, 0), HIDDEN);
        Due.due(17, "undo(), none", x.undo(), NONE);
    }

    private static void undoingAll() {
        BottleBefore x = Due.house(HOUSE);
        for (int i = 0; i < 45; i++) {
            x.month();
        }
        Due.due(43, "count(13)", x.count(13), 40);
        for (int i = 39; i >= 0; i--) {
            Due.due(17, "undo()", x.undo(), i);
        }
        Due.due(17, "undo(), the latest 40 alone", x.undo(), NONE);
        Due.due(17, "count(7)", x.count(7), 5);
        x.month();
        Due.due(17, "undo(), a new one", x.undo(), 0);
        x.law(NONE);
        x.snow(3);
        x.seen(0, 0, 0, 0);
        x.image();
        Due.due(17, "no ACTS", x.undo(), NONE);
    }

    private static void bookOfSixty() {
        BottleBefore x = Due.house("sw9j0;dq1p0;dq8p50;gl0m50h9;gl1m0h0");
        Due.due(18, "book(0, 0), empty", x.book(0, 0), HIDDEN);
        x.visit(0);
        for (int i = 1; i < 60; i++) {
            x.visit(1);
        }
        Due.due(43, "count(12)", x.count(12), 60);
        Due.due(18, "book(59, 0)", x.book(59, 0), 0);
        Due.due(18, "book(60, 0)", x.book(60, 0), HIDDEN);
        Due.due(18, "book(-1, 0)", x.book(-1, 0), HIDDEN);
        Due.due(18, "book(0, 4)", x.book(0, 4), HIDDEN);
        Due.due(18, "book(0, -1)", x.book(0, -1), HIDDEN);
        x.visit(1);
        Due.due(18, "book(59, 0), the first is out", x.book(59, 0), 1);
        Due.due(18, "book(60, 0)", x.book(60, 0), HIDDEN);
        Due.due(43, "count(12)", x.count(12), 60);
        Due.due(43, "count(6)", x.count(6), 61);
        x.undo();
        Due.due(17, "book(59, 0), the first is back", x.book(59, 0), 0);
    }

    private static void bookUndone() {
        BottleBefore x = Due.house("d;d;g;g;g;g;g;g");
        for (int i = 0; i < 130; i++) {
            x.visit(i * i % 6);
        }
        for (int undone = 1; undone <= 40; undone++) {
            x.undo();
        }
        for (int i = 0; i < 60; i++) {
            int number = 89 - i;
            Due.due(17, "book(" + i + ", 0), 40 undone", x.book(i, 0), number * number % 6);
        }
        x.visit(5);
        Due.due(18, "book(0, 0)", x.book(0, 0), 5);
        Due.due(18, "book(59, 0)", x.book(59, 0), 31 * 31 % 6);
    }

    private static void performing() {
        BottleBefore x = Due.house(HOUSE);
        Due.tell(x, 2, "g0;h2;g2;m");
        Due.due(21, "perform(0)", x.perform(0), 2);
        Due.due(21, "rule(0)", x.rule(0), 2);
        Due.due(21, "count(13)", x.count(13), 2);
        Due.due(21, "count(6)", x.count(6), 1);
        Due.due(21, "perform(1)", x.perform(1), NONE);
        Due.due(21, "perform(-1)", x.perform(-1), NONE);
        Due.due(21, "perform(0), the HOST did", x.perform(0), 1);
        BottleBefore y = new BottleBefore();
        Due.tell(y, 2, "m");
        Due.due(21, "perform(0) without a house", y.perform(0), NONE);
        Due.due(20, "run(0, 0) without a house", y.run(0, 0), HIDDEN);
        Due.due(26, "round(0) without a house", y.round(0), NONE);
        Due.due(19, "step(0, 0, 0) without a house", y.step(0, 0, 0), 1);
    }

    private static void images() {
        BottleBefore x = Due.house(HOUSE);
        Due.due(42, "back(), none", x.back(), NONE);
        x.visit(0);
        x.host(2);
        Due.due(41, "image()", x.image(), 1);
        Due.due(41, "no ACT", x.count(13), 2);
        x.visit(1);
        x.visit(1);
        x.month();
        x.price(2, 1);
        x.pay(0, 5);
        Due.due(42, "back()", x.back(), 1);
        Due.due(42, "rule(0)", x.rule(0), 2);
        guestIs(42, x, 0, 15, 6, 6);
        guestIs(42, x, 1, 3, 5, 0);
        Due.due(42, "drink(2, 1)", x.drink(2, 1), 12);
        Due.due(42, "count(7)", x.count(7), 0);
        Due.due(42, "count(11)", x.count(11), 1);
        Due.due(42, "count(12)", x.count(12), 1);
        lineIs(x, 0, 0, 1, 1, 6);
        Due.due(42, "undo(), none can be then", x.undo(), NONE);
        x.visit(0);
        Due.due(42, "back() again", x.back(), 1);
        Due.due(42, "count(6)", x.count(6), 1);
        x.visit(0);
        x.visit(0);
        Due.due(41, "image(), instead", x.image(), 3);
        x.month();
        Due.due(42, "back()", x.back(), 3);
        Due.due(42, "count(7)", x.count(7), 0);

        BottleBefore full = Due.house("d;d;g;g");
        for (int i = 0; i < 70; i++) {
            full.visit(i < 20 ? 0 : 1);
        }
        full.image();
        for (int i = 0; i < 120; i++) {
            full.visit(0);
        }
        Due.due(42, "back()", full.back(), 70);
        Due.due(42, "book(49, 0)", full.book(49, 0), 1);
        Due.due(42, "book(50, 0)", full.book(50, 0), 0);
        Due.due(42, "book(59, 0)", full.book(59, 0), 0);
    }

    private static void counts() {
        BottleBefore x = Due.house(HOUSE);
        x.visit(0);
        x.visit(1);
        Due.due(43, "count(0)", x.count(0), 2);
        Due.due(43, "count(1)", x.count(1), 3);
        Due.due(43, "count(6)", x.count(6), 2);
        Due.due(43, "count(8)", x.count(8), 12);
        Due.due(43, "count(12)", x.count(12), 2);
        Due.due(43, "count(13)", x.count(13), 2);
        Due.due(43, "count(14)", x.count(14), HIDDEN);
        Due.due(43, "count(-1)", x.count(-1), HIDDEN);
    }
}
