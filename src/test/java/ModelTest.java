import java.util.NoSuchElementException;
import java.util.Random;

/** Runs of drawn calls (the seeds are fixed) on the class and on the Model: every answer must be the same. */
public final class ModelTest {
    private static final int RUNS = 1200;
    // An object is used for 512 calls: the last round may take 60 more, and the looks at the end 14.
    private static final int CALLS = 430;
    private static final int TEXTS = 60000;
    // A text takes at most 16 calls: end, twelve feeds, three faults.
    private static final int TEXTS_OF_ONE = 32;

    private final Random draw;
    private final BottleBefore x = new BottleBefore();
    private final Model m = new Model();
    private final StringBuilder told = new StringBuilder();
    private int wrong;
    private int calls;

    private ModelTest(long seed) {
        // Seeds side by side would draw nearly the same first numbers.
        draw = new Random(seed * 0x9E3779B97F4A7C15L);
    }

    public static void main(String[] args) {
        int wrong = 0;
        for (int i = 0; i < RUNS && wrong < 5; i++) {
            ModelTest t = new ModelTest(i);
            t.runOfCalls(i % 8 == 0);
            if (t.wrong > 0) {
                System.out.println("seed " + i + ":\n" + t.told);
            }
            wrong += t.wrong;
        }
        wrong += texts();
        System.out.println(wrong == 0 ? "the class and the model agree" : wrong + " answers differ");
        if (wrong != 0) System.exit(1);
    }

    private static int texts() {
        int wrong = 0;
        ModelTest t = null;
        for (int i = 0; i < TEXTS && wrong < 5; i++) {
            if (i % TEXTS_OF_ONE == 0) t = new ModelTest(RUNS + i);
            String text = t.marred(t.anyText());
            t.x.end(0);
            t.m.end(0);
            t.feed(text);
            for (int sort = 0; sort < 3; sort++) {
                int a = t.x.fault(sort), b = t.m.fault(sort);
                if (a != b) {
                    wrong++;
                    System.out.println("fault(" + sort + ") of \"" + text + "\" answered " + a + ", due is " + b);
                }
            }
        }
        return wrong;
    }

    // ---- texts

    private int below(int n) {
        return draw.nextInt(n);
    }

    private String blanks() {
        return below(12) == 0 ? "  ".substring(below(2)) : "";
    }

    private String anyText() {
        int sort = below(3);
        return sort == 0 ? house() : sort == 1 ? law() : winter();
    }

    private String house() {
        StringBuilder b = new StringBuilder();
        int drinks = 2 + below(5), guests = 1 + below(6);
        boolean rules = below(4) > 0;
        for (int i = 0; i < drinks; i++)
            part(b, "d" + item("q", 10, 3) + item("p", below(3) == 0 ? 61 : 20, 4));
        if (rules) part(b, "s" + item("b", drinks, 2) + item("w", 31, 3) + item("j", 10, 3));
        for (int i = 0; i < guests; i++)
            part(b, "g" + item("h", 10, 3) + item("m", below(2) == 0 ? 100 : 30, 4) + item("l", drinks, 3));
        return b.toString();
    }

    private void part(StringBuilder b, String clause) {
        if (b.length() > 0) b.append(';');
        b.append(blanks()).append(clause).append(blanks());
    }

    private String item(String letter, int below, int often) {
        return below(often) == 0 ? "" : letter + blanks() + below(below) + blanks();
    }

    private String winter() {
        StringBuilder b = new StringBuilder();
        int n = below(8) == 0 ? 16 + below(2) : 1 + below(6);
        for (int i = 0; i < n; i++) {
            int kind = below(5);
            int digit = below(30) == 0 ? below(10) : below(4);
            part(b, kind == 0 ? "m" : (kind == 1 ? "h" : "g") + blanks() + digit);
        }
        return b.toString();
    }

    private String law() {
        StringBuilder b = new StringBuilder();
        int n = 1 + below(3);
        for (int i = 0; i < n; i++) {
            part(b, "y" + blanks() + ":" + (below(3) > 0 ? condition(4) + "?" : "") + sum(3));
        }
        return b.length() > 240 ? "y:q+l" : b.toString();
    }

    private String condition(int left) {
        return unit(left) + (left > 0 && below(4) == 0 ? (below(2) == 0 ? "&" : "|") + condition(left - 1) : "");
    }

    private String unit(int left) {
        int kind = left < 1 ? 2 : below(6);
        if (kind == 0) return "!" + blanks() + unit(left - 1);
        if (kind == 1) return "(" + condition(left - 1) + ")" + blanks();
        return sum(left - 1) + "=<>".charAt(below(3)) + blanks() + sum(left - 1);
    }

    private String sum(int left) {
        String s = atom(left);
        while (below(5) < 2) s += "+-*/+-".charAt(below(6)) + blanks() + atom(left);
        return s;
    }

    private String atom(int left) {
        int kind = below(left > 0 ? 8 : 6);
        if (kind < 2) return below(5) == 0 ? "" + below(10000) : "" + below(12);
        if (kind < 6) return "qhlmnp".charAt(below(6)) + blanks();
        return "[" + sum(left - 1) + "]";
    }

    private String marred(String text) {
        StringBuilder b = new StringBuilder(text);
        String signs = "sdgbwjqplmhy:?|&!()=<>+-*/[]n0123456789 ;xA" + (char) 200;
        for (int i = below(4); i > 0; i--) {
            int at = below(b.length() + 1);
            int kind = below(4);
            if (kind == 0 && at < b.length()) b.deleteCharAt(at);
            else if (kind == 1 && at < b.length()) b.setCharAt(at, signs.charAt(below(signs.length())));
            else if (kind == 2) b.insert(at, signs.charAt(below(signs.length())));
            else if (below(3) == 0) b.setLength(at);
            else if (at < b.length()) b.insert(at, "" + b.charAt(at) + b.charAt(at) + b.charAt(at));
        }
        return b.length() > 240 ? b.substring(0, 240) : b.toString();
    }

    private void feed(String text) {
        int[] w = new int[5];
        for (int i = 0; i < text.length(); i += 20) {
            java.util.Arrays.fill(w, 0);
            for (int j = i; j < i + 20 && j < text.length(); j++) {
                w[(j - i) / 4] |= text.charAt(j) << (24 - 8 * ((j - i) % 4));
            }
            due("feed", x.feed(w[0], w[1], w[2], w[3], w[4]), m.feed(w));
        }
    }

    // ---- calls

    private void due(String call, long got, long want) {
        calls++;
        if (got != want) {
            wrong++;
            told.append(call).append(" answered ").append(got).append(", due is ").append(want).append('\n');
        }
    }

    private void due(String call, boolean got, boolean want) {
        due(call, got ? 1 : 0, want ? 1 : 0);
    }

    private void tell(int sort, String text) {
        due("end", x.end(0), m.end(0));
        feed(text);
        due("fault " + text, x.fault(sort), m.fault(sort));
        due("text " + text, x.text(sort), m.text(sort));
        told.append("text ").append(sort).append(' ').append(text).append('\n');
    }

    private void runOfCalls(boolean late) {
        for (int i = 0; calls < CALLS && wrong == 0; i++) {
            if (i == 5 && late) lastMonths();
            else if (i == 0 || below(80) == 0) tell(0, below(10) == 0 ? marred(house()) : house());
            else if (i < 5 || below(100) == 0) tell(1 + i % 2, i % 2 == 0 ? law() : winter());
            else if (below(20) == 0) rare();
            else if (below(3) == 0) acts();
            else if (below(2) == 0) looks();
            else searches();
        }
        for (int i = 0; i < 14; i++) due("count " + i, x.count(i), m.count(i));
        if (calls > 512) {
            wrong++;
            told.append(calls).append(" calls of one object\n");
        }
    }

    /** Years enough that hardly a MONTH is left, if any. */
    private void lastMonths() {
        due("snow 9", x.snow(9), m.snow(9));
        for (int i = 17 + below(3); i > 0; i--) {
            long seed = draw.nextLong();
            due("years 60", x.years(60, seed), m.years(60, seed));
        }
        if (below(2) == 0) due("image", x.image(), m.image());
        if (below(2) == 0) due("back", x.back(), m.back());
        due("count 13", x.count(13), m.count(13));
    }

    private int index(int most) {
        int kind = below(40);
        if (kind == 0) return draw.nextInt();
        return kind < 3 ? most + below(2) : kind == 3 ? -1 - below(2) : below(Math.max(1, most));
    }

    private int g() {
        return index(m.guests);
    }

    private int d() {
        return index(m.drinks);
    }

    private int iOrCount() {
        return below(3) == 0 ? -1 : index(5);
    }

    private void rare() {
        int v = below(100) < 50 ? below(12) - 1 : index(4);
        switch (below(5)) {
            case 0: due("law " + v, x.law(v), m.law(v)); break;
            case 1: due("snow " + v, x.snow(v), m.snow(v)); break;
            case 2: due("image", x.image(), m.image()); break;
            case 3: if (below(3) == 0) due("back", x.back(), m.back()); break;
            default: int n = below(250); due("end " + n, x.end(n), m.end(n)); feed(marred(anyText())); break;
        }
    }

    private void acts() {
        int g = g(), d = d(), n = below(62), w = index(m.winters.size());
        long seed = draw.nextLong();
        switch (below(10)) {
            case 0: case 1: case 2: due("visit " + g, x.visit(g), m.visit(g)); break;
            case 3: due("month", x.month(), m.month()); break;
            case 4: due("host " + d, x.host(d), m.host(d)); break;
            case 5: due("pay " + g + " " + n, x.pay(g, n), m.pay(g, n)); break;
            case 6: due("price " + d + " " + n, x.price(d, n), m.price(d, n)); break;
            case 7: due("years " + n, x.years(n, seed), m.years(n, seed)); break;
            case 8: for (int i = below(45); i > 0; i--) due("undo", x.undo(), m.undo()); break;
            default: due("perform " + w, x.perform(w), m.perform(w)); break;
        }
    }

    private void looks() {
        int g = g(), d = d(), w = index(m.winters.size()), what = index(4), i = below(64) - 2;
        switch (below(13)) {
            case 0: due("rule " + what, x.rule(what), m.rule(what)); break;
            case 1: due("drink", x.drink(d, what), m.drink(d, what)); break;
            case 2: case 3: guest(g, what); break;
            case 4: due("book " + i, x.book(i, what), m.book(i, what)); break;
            case 5: due("step", x.step(w, i / 4, what), m.step(w, i / 4, what)); break;
            case 6: due("makes " + g + " " + d, x.makes(g, d), m.makes(g, d)); break;
            case 7: due("glad", x.glad(g), m.glad(g)); break;
            case 8: int a = index(8); due("all " + a, x.all(a), m.all(a)); break;
            case 9: due("affords", x.affords(g), m.affords(g)); break;
            case 10: due("brought", x.brought(d), m.brought(d)); break;
            case 11: due("saves", x.saves(g, d), m.saves(g, d)); break;
            default: int c = index(14); due("count " + c, x.count(c), m.count(c)); break;
        }
    }

    private void guest(int g, int what) {
        long a, b;
        try {
            a = x.guest(g, what);
        } catch (NoSuchElementException e) {
            a = Long.MIN_VALUE;
        }
        try {
            b = m.guest(g, what);
        } catch (NoSuchElementException e) {
            b = Long.MIN_VALUE;
        }
        due("guest " + g + " " + what, a, b);
    }

    private void searches() {
        int g = g(), h = g(), d = d(), e = d(), w = index(m.winters.size()), what = index(2), i = iOrCount();
        int n = below(10) == 0 ? index(5) : below(4);
        switch (below(15)) {
            case 0: due("run " + w, x.run(w, what), m.run(w, what)); break;
            case 1: due("round " + w, x.round(w), m.round(w)); break;
            case 2: if (m.guests < 6 || below(6) == 0) due("best", x.best(what), m.best(what)); break;
            case 3: due("comes " + n, x.comes(n, what), m.comes(n, what)); break;
            case 4: due("soonest " + d, x.soonest(d, what), m.soonest(d, what)); break;
            case 5: due("ends", x.ends(what), m.ends(what)); break;
            case 6: case 7: int b = below(5) == 0 ? -1 : e; int k = index(100);
                due("seen", x.seen(g, d, k, b), m.seen(g, d, k, b)); break;
            case 8: due("fits " + g, x.fits(g, i), m.fits(g, i)); break;
            case 9: int y = index(100); due("serve", x.serve(g, y), m.serve(g, y)); break;
            case 10: due("who " + d, x.who(d, n, i), m.who(d, n, i)); break;
            case 11: due("game", x.game(g, h, d, e, what), m.game(g, h, d, e, what)); break;
            case 12: due("rests", x.rests(g, h, i), m.rests(g, h, i)); break;
            case 13: due("dealt", x.dealt(what), m.dealt(what)); break;
            default: due("odds " + d + " " + n, x.odds(d, n), m.odds(d, n)); break;
        }
    }
}
