/** Promises 20 and 22 to 40: what is answered apart, from as it is. */
public final class LooksTest {
    private static final int NONE = BottleBefore.NONE;
    private static final int HIDDEN = BottleBefore.HIDDEN;
    private static final String HOUSE = "sb1w4j2;dq2p1;dq6p5;dq9p12;gl2m20h5;gl0m3h5";

    public static void main(String[] args) {
        runs();
        bests();
        comings();
        soonests();
        ends();
        rounds();
        sightings();
        fits();
        serves();
        whos();
        games();
        rests();
        deals();
        odds();
        makings();
        alls();
        payments();
        savings();
        nothingChanges();
        Due.close();
    }

    private static void runs() {
        BottleBefore x = Due.house(HOUSE);
        Due.tell(x, 2, "g0;m;g1;h2");
        Due.tell(x, 2, "g0;g1;h0");
        Due.tell(x, 2, "h2;g0;h1");
        Due.tell(x, 2, "g9");
        Due.due(20, "run(0, 0)", x.run(0, 0), NONE);
        Due.due(20, "run(0, 1)", x.run(0, 1), 12);
        Due.due(20, "run(1, 0), it is the BOTTLE", x.run(1, 0), 2);
        Due.due(20, "run(1, 1)", x.run(1, 1), 12);
        Due.due(20, "run(2, 0), the HOST did", x.run(2, 0), 2);
        Due.due(20, "run(2, 1)", x.run(2, 1), 11);
        Due.due(20, "run(3, 0), no such GUEST", x.run(3, 0), 0);
        Due.due(20, "run(3, 1)", x.run(3, 1), 0);
        Due.due(20, "run(4, 0)", x.run(4, 0), HIDDEN);
        Due.due(20, "run(-1, 0)", x.run(-1, 0), HIDDEN);
        Due.due(20, "run(0, 2)", x.run(0, 2), HIDDEN);
        Due.due(20, "run(0, -1)", x.run(0, -1), HIDDEN);
        x.visit(0);
        Due.due(20, "run(0, 1), JOY of its VISITS alone", x.run(0, 1), 12);
    }

    private static void bests() {
        // The first guest brings nothing good, the second the best: 10 gives 0 + 9, 01 gives 0 + 0.
        BottleBefore x = Due.holding(Due.house("sj0;dq0p0;dq9p30;gm0;gm40"), "y:9");
        Due.due(22, "best(0)", x.best(0), 10);
        Due.due(22, "best(1)", x.best(1), 9);
        Due.due(22, "best(2)", x.best(2), NONE);
        Due.due(22, "best(-1)", x.best(-1), NONE);
        Due.due(22, "best(0), all alike", Due.house("d;d;g;g;g;g;g;g").best(0), 12345);
        Due.due(22, "best(1), all alike", Due.house("sj3;d;d;gl1;gl1;gl1;gl1;gl1;gl1").best(1), 30);
        Due.due(22, "best(0) without a house", new BottleBefore().best(0), NONE);
    }

    private static void comings() {
        BottleBefore x = Due.holding(Due.house("sj0;dq0p0;dq9p30;gm0;gm40"), "y:9");
        Due.due(23, "comes(1, 0)", x.comes(1, 0), 0);
        Due.due(23, "comes(1, 1)", x.comes(1, 1), 0);
        Due.due(23, "comes(2, 0)", x.comes(2, 0), 10);
        Due.due(23, "comes(2, 1)", x.comes(2, 1), 9);
        // The first hands nothing on, it brings the free one: again and again is best the second, who has 40 once.
        Due.due(23, "comes(4, 1)", x.comes(4, 1), 9);
        Due.due(23, "comes(4, 0)", x.comes(4, 0), 10);
        Due.due(23, "comes(3, 0), in the end", x.comes(3, 0), 10);
        BottleBefore y = Due.house("sb1j2;dq2p0;dq7p0;gl0h9;gl1h9");
        Due.due(23, "comes(3, 0), the same again", y.comes(3, 0), 111);
        Due.due(23, "comes(3, 1)", y.comes(3, 1), 27);
        Due.due(23, "comes(0, 0)", x.comes(0, 0), NONE);
        Due.due(23, "comes(5, 0)", x.comes(5, 0), NONE);
        Due.due(23, "comes(1, 2)", x.comes(1, 2), NONE);
        Due.due(23, "comes(1, -1)", x.comes(1, -1), NONE);
    }

    private static void soonests() {
        BottleBefore x = Due.house(HOUSE);
        Due.due(24, "soonest(1, 0)", x.soonest(1, 0), 0);
        Due.due(24, "soonest(1, 1)", x.soonest(1, 1), 0);
        Due.due(24, "soonest(0, 0)", x.soonest(0, 0), 1);
        Due.due(24, "soonest(0, 1)", x.soonest(0, 1), 1);
        Due.due(24, "soonest(2, 0), not by four", x.soonest(2, 0), NONE);
        Due.due(24, "soonest(2, 1), not by four", x.soonest(2, 1), NONE);
        Due.due(24, "soonest(3, 0)", x.soonest(3, 0), NONE);
        Due.due(24, "soonest(-1, 0)", x.soonest(-1, 0), NONE);
        Due.due(24, "soonest(0, 2)", x.soonest(0, 2), NONE);
        Due.due(24, "soonest(0, -1)", x.soonest(0, -1), NONE);
        // It is brought by the law behind so many visits.
        for (int ahead = 0; ahead <= 5; ahead++) {
            BottleBefore y = Due.holding(Due.house("dq0p0;dq9p0;g;g"), "y:n=" + ahead + "?9");
            Due.due(24, "soonest(1, 0), " + ahead, y.soonest(1, 0), ahead < 4 ? ahead + 1 : NONE);
            Due.due(24, "soonest(1, 1), " + ahead, y.soonest(1, 1), ahead < 4 ? 0 : NONE);
        }
        BottleBefore z = Due.holding(Due.house("dq0p0;dq9p0;gl1h1;gl1h9"), "y:n=1&h>3?9");
        Due.due(24, "soonest(1, 0)", z.soonest(1, 0), 2);
        Due.due(24, "soonest(1, 1)", z.soonest(1, 1), 1);
    }

    private static void ends() {
        BottleBefore x = Due.house(HOUSE);
        Due.due(25, "ends(0)", x.ends(0), 1);
        Due.due(25, "ends(1)", x.ends(1), 1);
        Due.due(25, "ends(2)", x.ends(2), NONE);
        Due.due(25, "ends(-1)", x.ends(-1), NONE);
        for (int ahead = 0; ahead <= 5; ahead++) {
            BottleBefore y = Due.holding(Due.house("dq0p0;dq9p0;gh9;gh0"), "y:n=" + ahead + "&h<3?9");
            Due.due(25, "ends(0), " + ahead, y.ends(0), ahead < 4 ? ahead + 1 : NONE);
            Due.due(25, "ends(1), " + ahead, y.ends(1), ahead < 4 ? 1 : NONE);
        }
    }

    private static void rounds() {
        BottleBefore x = Due.holding(Due.house("dq0p0;dq9p0;g"), "y:n=6?0;y:9");
        Due.tell(x, 2, "g0");
        Due.tell(x, 2, "g0;g0;g0");
        Due.tell(x, 2, "g0;h0");
        Due.tell(x, 2, "m");
        Due.due(26, "round(0)", x.round(0), 7);
        Due.due(26, "round(1), not within 30", x.round(1), NONE);
        Due.due(26, "round(2)", x.round(2), 1);
        Due.due(26, "round(3)", x.round(3), 1);
        Due.due(26, "round(4)", x.round(4), NONE);
        Due.due(26, "round(-1)", x.round(-1), NONE);
        for (int at = 29; at <= 30; at++) {
            BottleBefore y = Due.holding(Due.house("dq0p0;dq9p0;g"), "y:n=" + at + "?0;y:9");
            Due.tell(y, 2, "g0");
            Due.due(26, "round(0), " + (at + 1), y.round(0), at == 29 ? 30 : NONE);
        }
        // The second time the HOST can't: it put in this MONTH.
        BottleBefore z = Due.house("dq0p0;dq9p0;dq4p0;gh0");
        Due.tell(z, 2, "h1;g0");
        Due.due(20, "run(0, 0)", z.run(0, 0), NONE);
        Due.due(26, "round(0), a step can't be on the way", z.round(0), NONE);
    }

    private static void sightings() {
        BottleBefore x = Due.house(HOUSE);
        Due.due(27, "seen(2, 0, 0, 0)", x.seen(2, 0, 0, 0), NONE);
        Due.due(27, "seen(-1, 0, 0, 0)", x.seen(-1, 0, 0, 0), NONE);
        Due.due(27, "seen(0, 3, 0, 0)", x.seen(0, 3, 0, 0), NONE);
        Due.due(27, "seen(0, -1, 0, 0)", x.seen(0, -1, 0, 0), NONE);
        Due.due(27, "seen(0, 0, -1, 0)", x.seen(0, 0, -1, 0), NONE);
        Due.due(27, "seen(0, 0, 100, 0)", x.seen(0, 0, 100, 0), NONE);
        Due.due(27, "seen(0, 0, 0, 3)", x.seen(0, 0, 0, 3), NONE);
        Due.due(27, "seen(0, 0, 0, -2)", x.seen(0, 0, 0, -2), NONE);
        for (int i = 1; i <= 10; i++) {
            Due.due(27, "seen " + i, x.seen(i % 2, 0, i == 1 ? 99 : 0, i == 2 ? 0 : NONE), i);
        }
        Due.due(27, "seen, an eleventh", x.seen(0, 0, 0, NONE), NONE);
        Due.due(43, "count(10)", x.count(10), 10);
    }

    private static void fits() {
        BottleBefore x = Due.house(HOUSE);
        Due.due(28, "fits(0, NONE), nothing seen", x.fits(0, NONE), 30);
        Due.due(28, "fits(0, 29), nothing seen", x.fits(0, 29), 29);
        Due.due(28, "fits(0, 30)", x.fits(0, 30), NONE);
        Due.due(28, "fits(0, -2)", x.fits(0, -2), NONE);
        Due.due(28, "fits(2, NONE)", x.fits(2, NONE), NONE);
        Due.due(28, "fits(-1, NONE)", x.fits(-1, NONE), NONE);
        // It got 9 (glad) and brought it, so wished 8 or more: MOOD 7 behind it, 6 ahead.
        x.seen(0, 2, 99, 2);
        Due.due(28, "fits(0, NONE)", x.fits(0, NONE), 12);
        int[] want = {6, 7, 8, 9, 16, 17, 18, 19, 26, 27, 28, 29};
        for (int i = 0; i < want.length; i++) {
            Due.due(28, "fits(0, " + i + ")", x.fits(0, i), want[i]);
        }
        Due.due(28, "fits(0, 12)", x.fits(0, 12), NONE);
        Due.due(28, "fits(1, NONE), not of it", x.fits(1, NONE), 30);
        x.seen(0, 1, 0, 1);
        Due.due(28, "fits(0, NONE), it could not pay", x.fits(0, NONE), 0);
        Due.due(28, "fits(0, 0)", x.fits(0, 0), NONE);
        Due.due(29, "serve(0, 9), nothing fits", x.serve(0, 9), NONE);
        x.seen(1, 1, 0, NONE);
        Due.due(28, "fits(1, NONE), HANDED ON", x.fits(1, NONE), 30);

        BottleBefore y = Due.holding(Due.house("sj0;dq0p0;dq9p0;g"), "y:l=1&n=0?9");
        y.visit(0);
        y.seen(0, 1, 3, 1);
        Due.due(28, "fits(0, NONE) by what it LIKES, VISITS ahead as 0", y.fits(0, NONE), 10);
        Due.due(28, "fits(0, 0)", y.fits(0, 0), 10);
        y.law(NONE);
        Due.due(28, "fits(0, NONE), by the LAW that holds now", y.fits(0, NONE), 20);
        // 9 and MOOD behind it, by 2, is 5 or more by any.
        y.price(1, 4);
        Due.due(28, "fits(0, NONE), by the PRICE now", y.fits(0, NONE), 0);
    }

    private static void serves() {
        // A law by which the first drink tells all of it and the second nothing.
        BottleBefore x = Due.holding(Due.house("sj0;dq5p0;dq9p0;dq0p0;gl1"), "y:q=0?h;y:9");
        Due.due(29, "serve(0, 0)", x.serve(0, 0), 2);
        Due.holding(x, "y:9");
        Due.due(29, "serve(0, 0), of several the lowest", x.serve(0, 0), 0);
        Due.holding(x, "y:l*9");
        Due.due(29, "serve(0, 0), by what it LIKES", x.serve(0, 0), 0);
        Due.holding(x, "y:m>4&q=9?h;y:q=0&m<5?l*9;y:0");
        Due.due(29, "serve(0, 4)", x.serve(0, 4), 2);
        Due.due(29, "serve(0, 5)", x.serve(0, 5), 1);
        Due.due(29, "serve(0, -1)", x.serve(0, -1), NONE);
        Due.due(29, "serve(0, 100)", x.serve(0, 100), NONE);
        Due.due(29, "serve(0, 99)", x.serve(0, 99), 1);
        BottleBefore later = Due.holding(Due.house("sj0;dq5p0;dq9p0;g"), "y:n=0&q=9?h;y:n>0&q=5?h;y:9");
        later.visit(0);
        Due.due(29, "serve(0, 0), VISITS ahead as 0", later.serve(0, 0), 1);
        Due.due(29, "serve(1, 0)", x.serve(1, 0), NONE);
        Due.due(29, "serve(-1, 0)", x.serve(-1, 0), NONE);
    }

    private static void whos() {
        BottleBefore x = Due.house(HOUSE);
        Due.due(30, "who(1, 1, NONE)", x.who(1, 1, NONE), 1);
        Due.due(30, "who(1, 1, 0)", x.who(1, 1, 0), 0);
        Due.due(30, "who(1, 1, 1)", x.who(1, 1, 1), NONE);
        Due.due(30, "who(0, 2, NONE)", x.who(0, 2, NONE), 2);
        Due.due(30, "who(0, 2, 0)", x.who(0, 2, 0), 1);
        Due.due(30, "who(0, 2, 1)", x.who(0, 2, 1), 10);
        Due.due(30, "who(0, 2, -2)", x.who(0, 2, -2), NONE);
        Due.due(30, "who(0, 3, NONE), too few GUESTS", x.who(0, 3, NONE), 0);
        Due.due(30, "who(0, 0, NONE)", x.who(0, 0, NONE), NONE);
        Due.due(30, "who(0, 4, NONE)", x.who(0, 4, NONE), NONE);
        Due.due(30, "who(3, 1, NONE)", x.who(3, 1, NONE), NONE);
        Due.due(30, "who(-1, 1, NONE)", x.who(-1, 1, NONE), NONE);
        BottleBefore y = Due.house("d;d;g;g;g;g;g;g");
        Due.due(30, "who(0, 3, NONE)", y.who(0, 3, NONE), 120);
        Due.due(30, "who(0, 3, 119)", y.who(0, 3, 119), 543);
        Due.due(30, "who(1, 3, NONE)", y.who(1, 3, NONE), 0);
        Due.due(30, "who(1, 3, 0)", y.who(1, 3, 0), NONE);
    }

    private static void games() {
        BottleBefore x = Due.house(HOUSE);
        Due.due(31, "game(0, 1, 2, 0, 0)", x.game(0, 1, 2, 0, 0), -2);
        Due.due(31, "game(0, 1, 2, 0, 1)", x.game(0, 1, 2, 0, 1), 9);
        Due.due(31, "game(0, 1, 0, 2, 0)", x.game(0, 1, 0, 2, 0), 11);
        Due.due(31, "game(0, 1, 0, 2, 1)", x.game(0, 1, 0, 2, 1), 0);
        Due.due(31, "game(1, 0, 2, 0, 0)", x.game(1, 0, 2, 0, 0), 0);
        Due.due(31, "game(0, 1, 1, 1, 0)", x.game(0, 1, 1, 1, 0), 5);
        Due.due(31, "game(0, 0, 1, 1, 0), alike", x.game(0, 0, 1, 1, 0), HIDDEN);
        Due.due(31, "game(0, 2, 1, 1, 0)", x.game(0, 2, 1, 1, 0), HIDDEN);
        Due.due(31, "game(-1, 1, 1, 1, 0)", x.game(-1, 1, 1, 1, 0), HIDDEN);
        Due.due(31, "game(0, 1, 3, 1, 0)", x.game(0, 1, 3, 1, 0), HIDDEN);
        Due.due(31, "game(0, 1, 1, 3, 0)", x.game(0, 1, 1, 3, 0), HIDDEN);
        Due.due(31, "game(0, 1, -1, 1, 0)", x.game(0, 1, -1, 1, 0), HIDDEN);
        Due.due(31, "game(0, 1, 1, 1, 2)", x.game(0, 1, 1, 1, 2), HIDDEN);
        Due.due(31, "game(0, 1, 1, 1, -1)", x.game(0, 1, 1, 1, -1), HIDDEN);
    }

    private static void rests() {
        BottleBefore x = Due.house("dp3;dp2;dp0;g;g;g");
        // By 3, cut: 1, 0, 0.
        int[] want = {11, 12, 21, 22};
        Due.due(32, "rests(0, 1, NONE)", x.rests(0, 1, NONE), 4);
        for (int i = 0; i < want.length; i++) {
            Due.due(32, "rests(2, 1, " + i + ")", x.rests(2, 1, i), want[i]);
        }
        Due.due(32, "rests(0, 1, 4)", x.rests(0, 1, 4), NONE);
        Due.due(32, "rests(0, 1, -2)", x.rests(0, 1, -2), NONE);
        Due.due(32, "rests(1, 1, NONE)", x.rests(1, 1, NONE), NONE);
        Due.due(32, "rests(0, 3, NONE)", x.rests(0, 3, NONE), NONE);
        Due.due(32, "rests(-1, 0, NONE)", x.rests(-1, 0, NONE), NONE);
        x.price(0, 0);
        Due.due(32, "rests(0, 1, NONE), all alike", x.rests(0, 1, NONE), 9);
        Due.due(32, "rests(0, 1, 0), all alike", x.rests(0, 1, 0), 0);
        Due.due(32, "rests(0, 1, 8), all alike", x.rests(0, 1, 8), 22);
        x.price(0, 3);
        x.price(2, 3);
        Due.due(32, "rests(0, 1, NONE), PRICE as it is", x.rests(0, 1, NONE), 1);
        Due.due(32, "rests(0, 1, 0)", x.rests(0, 1, 0), 11);
    }

    private static void deals() {
        BottleBefore x = Due.house(HOUSE);
        Due.due(33, "dealt(0)", x.dealt(0), 21);
        Due.due(33, "dealt(1)", x.dealt(1), 17);
        Due.due(33, "dealt(2)", x.dealt(2), NONE);
        Due.due(33, "dealt(-1)", x.dealt(-1), NONE);
        Due.due(33, "dealt(0), the least", Due.house("d;d;d;gl2;g;g").dealt(0), 201);
        Due.due(33, "dealt(1), the least", Due.house("d;d;d;gl2;g;g").dealt(1), 21);
        Due.due(33, "dealt(0), fewer DRINKS", Due.house("d;d;g;g;g").dealt(0), NONE);
        Due.due(33, "dealt(0), six", Due.house("d;d;d;d;d;d;gl5;gl4;gl3;gl2;gl1;gl0").dealt(0), 543210);
        Due.due(33, "dealt(1), six", Due.house("d;d;d;d;d;d;gl5;gl4;gl3;gl2;gl1;gl0").dealt(1), 48);
        Due.due(33, "dealt(0) without a house", new BottleBefore().dealt(0), NONE);
    }

    private static void odds() {
        BottleBefore x = Due.house(HOUSE);
        Due.due(34, "odds(1, 0)", x.odds(1, 0), 1000000);
        Due.due(34, "odds(0, 0)", x.odds(0, 0), 0);
        Due.due(34, "odds(1, 1)", x.odds(1, 1), 500000);
        Due.due(34, "odds(1, 2)", x.odds(1, 2), 250000);
        Due.due(34, "odds(0, 5)", x.odds(0, 5), NONE);
        Due.due(34, "odds(0, -1)", x.odds(0, -1), NONE);
        Due.due(34, "odds(3, 1)", x.odds(3, 1), NONE);
        Due.due(34, "odds(-1, 1)", x.odds(-1, 1), NONE);
        BottleBefore y = Due.house("d;d;g;g;g;g;g;g");
        Due.due(34, "odds(0, 1), cut", y.odds(0, 1), 999996);
        Due.due(34, "odds(0, 2), cut", y.odds(0, 2), 36 * 27777);
        Due.due(34, "odds(0, 4), cut", y.odds(0, 4), 1296 * 771);
        Due.due(34, "odds(1, 4)", y.odds(1, 4), 0);
    }

    private static void makings() {
        BottleBefore x = Due.house(HOUSE);
        Due.due(35, "makes(0, 0)", x.makes(0, 0), 0);
        Due.due(35, "makes(0, 1)", x.makes(0, 1), 1);
        Due.due(35, "makes(0, 2)", x.makes(0, 2), 1);
        Due.due(35, "makes(1, 2)", x.makes(1, 2), 0);
        Due.due(35, "makes(2, 0)", x.makes(2, 0), HIDDEN);
        Due.due(35, "makes(-1, 0)", x.makes(-1, 0), HIDDEN);
        Due.due(35, "makes(0, 3)", x.makes(0, 3), HIDDEN);
        Due.due(35, "makes(0, -1)", x.makes(0, -1), HIDDEN);
        Due.due(35, "makes(0, 1), HANDED ON", Due.house("dp9;dp9;gm8").makes(0, 1), NONE);
        Due.due(36, "glad(0)", x.glad(0), 6);
        x.host(2);
        Due.due(36, "glad(0), it LIKES it", x.glad(0), 11);
        Due.due(36, "glad(1)", x.glad(1), 9);
        Due.due(36, "glad(2)", x.glad(2), NONE);
        Due.due(36, "glad(-1)", x.glad(-1), NONE);
    }

    private static void alls() {
        BottleBefore x = Due.house("sb0j2;dq3p7;dq8p9;dq0p4;gl2h3m9;gl1h2m50;gl1h2m50;gl2h9m4");
        int[] want = {1, 1, 0, 1, 0, 0, 4, 0};
        for (int i = 0; i < want.length; i++) {
            Due.due(37, "all(" + i + ")", x.all(i), want[i]);
        }
        Due.due(37, "all(8)", x.all(8), NONE);
        Due.due(37, "all(-1)", x.all(-1), NONE);
        // 3 and MOOD 8 by 2 is 5: the first and the second are 2 and 3 off, so the first is nearest.
        x.pay(3, 50);
        Due.due(37, "all(7)", x.all(7), 0);
        Due.due(37, "all(1)", x.all(1), 3);
        Due.holding(x, "y:9");
        Due.due(37, "all(7), all who can pay it", x.all(7), 15);
        x.price(1, 10);
        Due.due(37, "all(7), the first can't", x.all(7), 14);
        x.visit(1);
        Due.due(37, "all(7), none brings more", x.all(7), 0);
        x.visit(0);
        Due.due(37, "all(2)", x.all(2), 0);
        Due.due(37, "all(4), 11 by 2", x.all(4), 5);
        Due.due(37, "all(0)", x.all(0), 1);
        x.visit(0);
        Due.due(37, "all(5), HANDED", x.all(5), 1);
        Due.due(39, "brought(0)", x.brought(0), 1);
        Due.due(39, "brought(1)", x.brought(1), 1);
        Due.due(39, "brought(2)", x.brought(2), 0);
        Due.due(39, "brought(3)", x.brought(3), NONE);
        Due.due(39, "brought(-1)", x.brought(-1), NONE);
        x.price(0, 2);
        Due.due(37, "all(6)", x.all(6), 2);
        Due.due(37, "all(0) without a house", new BottleBefore().all(0), NONE);

        // THE BOOK forgets the first: 60 lines, all of the second drink, brought by none.
        BottleBefore y = Due.house("dq1p0;dq9p5;gm0;gm5");
        Due.holding(y, "y:9");
        y.price(0, 5);
        y.visit(1);
        for (int i = 0; i < 59; i++) {
            y.visit(0);
        }
        Due.due(37, "all(4), one of 1 and 59 of 9", y.all(4), 8);
        Due.due(37, "all(5)", y.all(5), 59);
        Due.due(39, "brought(1)", y.brought(1), 1);
        y.visit(0);
        Due.due(37, "all(4), 60 of 9", y.all(4), 9);
        Due.due(37, "all(5)", y.all(5), 60);
        Due.due(39, "brought(1)", y.brought(1), 0);
    }

    private static void payments() {
        BottleBefore x = Due.house(HOUSE);
        Due.due(38, "affords(0)", x.affords(0), 7);
        Due.due(38, "affords(1)", x.affords(1), 1);
        x.pay(1, 2);
        Due.due(38, "affords(1), just", x.affords(1), 3);
        x.price(0, 6);
        Due.due(38, "affords(1)", x.affords(1), 2);
        Due.due(38, "affords(2)", x.affords(2), NONE);
        Due.due(38, "affords(-1)", x.affords(-1), NONE);
        Due.due(38, "affords(0) without a house", new BottleBefore().affords(0), NONE);
    }

    private static void savings() {
        BottleBefore x = Due.house(HOUSE);
        Due.due(40, "saves(0, 2)", x.saves(0, 2), 0);
        Due.due(40, "saves(1, 0)", x.saves(1, 0), 0);
        Due.due(40, "saves(1, 1)", x.saves(1, 1), 1);
        Due.due(40, "saves(1, 2)", x.saves(1, 2), 3);
        x.price(2, 11);
        Due.due(40, "saves(1, 2), just", x.saves(1, 2), 2);
        Due.due(40, "saves(2, 0)", x.saves(2, 0), NONE);
        Due.due(40, "saves(-1, 0)", x.saves(-1, 0), NONE);
        Due.due(40, "saves(0, 3)", x.saves(0, 3), NONE);
        Due.due(40, "saves(0, -1)", x.saves(0, -1), NONE);
        Due.due(40, "saves(0, 1), no WAGES", Due.house("sw0;d;dp9;gm8").saves(0, 1), NONE);
        Due.due(40, "saves(0, 1), long", Due.house("sw1;d;dp60;gm0").saves(0, 1), 60);
    }

    /** All of these look only: what is so stays so. */
    private static void nothingChanges() {
        BottleBefore x = Due.house(HOUSE);
        Due.tell(x, 2, "g0;m;g1;h2");
        x.visit(0);
        x.best(0);
        x.comes(4, 1);
        x.soonest(2, 0);
        x.ends(1);
        x.who(0, 2, 0);
        x.odds(0, 4);
        x.run(0, 1);
        x.round(0);
        x.dealt(0);
        x.fits(0, NONE);
        x.serve(0, 9);
        int[] counts = {2, 3, 0, 1, 0, NONE, 1, 0, 6, 2, 0, 0, 1, 1};
        for (int i = 0; i < counts.length; i++) {
            Due.due(22, "count(" + i + ") behind the looks", x.count(i), counts[i]);
        }
        Due.due(22, "rule(0) behind the looks", x.rule(0), 1);
        Due.due(22, "guest(0, 1) behind the looks", x.guest(0, 1), 15);
        Due.due(22, "guest(0, 2) behind the looks", x.guest(0, 2), 6);
        Due.due(22, "guest(1, 2) behind the looks", x.guest(1, 2), 5);
    }
}
