import java.util.ArrayList;
import java.util.Arrays;
import java.util.List;
import java.util.NoSuchElementException;
import java.util.TreeMap;

/**
 * The document told a second time, as plainly as can be and in another way than the class: whole copies instead of
 * cells, texts read by descent and worked out as they are read, all rows written out in full and walked one by one.
 */
final class Model {
    static final int NONE = -1;
    static final int HIDDEN = -1000000;

    static final class Wrong extends RuntimeException {
        private static final long serialVersionUID = 1L;
        final int at;

        Wrong(int at) {
            this.at = at;
        }
    }

    /** A house as it is at one time. */
    static final class State {
        int bottle, month, visits;
        boolean put;
        int[] money = new int[6], mood = new int[6], joy = new int[6], price = new int[6];
        List<int[]> book = new ArrayList<>();

        State copy() {
            State s = new State();
            s.bottle = bottle;
            s.month = month;
            s.visits = visits;
            s.put = put;
            s.money = money.clone();
            s.mood = mood.clone();
            s.joy = joy.clone();
            s.price = price.clone();
            s.book = new ArrayList<>(book);
            return s;
        }
    }

    String tape = "";
    int guests, drinks, wages, more, snow = 2, holds = NONE;
    int[] quality = new int[6], likes = new int[6];
    State now = new State(), image;
    List<State> past = new ArrayList<>();
    List<String> laws = new ArrayList<>();
    List<List<String>> winters = new ArrayList<>();
    List<int[]> sightings = new ArrayList<>();

    // ---- texts

    final class Reading {
        final String text;
        int at;

        Reading(String text) {
            this.text = text;
            blanks();
        }

        void blanks() {
            while (at < text.length() && text.charAt(at) == ' ') at++;
        }

        int sign() {
            return at < text.length() ? text.charAt(at) : -1;
        }

        boolean atEnd() {
            return at >= text.length();
        }

        void next() {
            at++;
            blanks();
        }

        boolean eats(char c) {
            if (sign() != c) return false;
            next();
            return true;
        }

        void must(char c) {
            if (!eats(c)) throw new Wrong(at);
        }

        boolean digit() {
            return sign() >= '0' && sign() <= '9';
        }

        int number(int mostDigits, int most) {
            int from = at;
            while (digit()) at++;
            if (at == from) throw new Wrong(at);
            if (at - from > mostDigits) throw new Wrong(from + mostDigits);
            int v = Integer.parseInt(text.substring(from, at));
            if (v > most) throw new Wrong(at - 1);
            blanks();
            return v;
        }
    }

    static final class Told {
        int[] rules = {0, 5, 3};
        List<int[]> drinks = new ArrayList<>(), guests = new ArrayList<>();
    }

    Told readHouse(String text) {
        Reading r = new Reading(text);
        Told told = new Told();
        boolean rules = false;
        do {
            int c = r.sign();
            if (c == 's' && !rules) {
                rules = true;
                r.next();
                items(r, "bwj", told.rules, 5, 30, 9);
            } else if (c == 'd' && told.drinks.size() < 6) {
                told.drinks.add(new int[] {5, 5});
                r.next();
                items(r, "qp", told.drinks.get(told.drinks.size() - 1), 9, 60);
            } else if (c == 'g' && told.guests.size() < 6) {
                told.guests.add(new int[] {0, 20, 5});
                r.next();
                items(r, "lmh", told.guests.get(told.guests.size() - 1), 5, 99, 9);
            } else {
                throw new Wrong(r.at);
            }
        } while (r.eats(';'));
        int n = told.drinks.size();
        boolean ok = r.atEnd() && n >= 2 && !told.guests.isEmpty() && told.rules[0] < n;
        for (int[] g : told.guests) ok &= g[0] < n;
        if (!ok) throw new Wrong(r.at);
        return told;
    }

    void items(Reading r, String letters, int[] into, int... most) {
        String left = letters;
        while (r.sign() >= 0 && left.indexOf(r.sign()) >= 0) {
            int c = r.sign();
            left = left.replace((char) c, '\0');
            r.next();
            into[letters.indexOf(c)] = r.number(2, most[letters.indexOf(c)]);
        }
    }

    List<String> readWinter(String text) {
        Reading r = new Reading(text);
        List<String> steps = new ArrayList<>();
        while (true) {
            int c = r.sign();
            if (c == 'm') {
                r.next();
                steps.add("m");
            } else if (c == 'g' || c == 'h') {
                r.next();
                if (!r.digit()) throw new Wrong(r.at);
                steps.add("" + (char) c + (char) r.sign());
                r.next();
            } else {
                throw new Wrong(r.at);
            }
            if (r.atEnd()) return steps;
            if (r.sign() != ';' || steps.size() == 16) throw new Wrong(r.at);
            r.next();
        }
    }

    /** Works a law out by these letters (q h l m n p) while it reads it whole. */
    int worth(String text, int... letters) {
        Reading r = new Reading(text);
        Integer worth = null;
        do {
            r.must('y');
            r.must(':');
            boolean holds = true;
            if (hasCondition(r)) {
                holds = condition(r, letters, 0);
                r.must('?');
            }
            int v = sum(r, letters, 0);
            if (holds && worth == null) worth = v;
        } while (r.eats(';'));
        if (!r.atEnd()) throw new Wrong(r.at);
        return worth == null ? 0 : worth;
    }

    boolean hasCondition(Reading r) {
        if (r.sign() == '!' || r.sign() == '(') return true;
        int from = r.at;
        sum(r, new int[6], 0);
        boolean compares = r.sign() == '=' || r.sign() == '<' || r.sign() == '>';
        r.at = from;
        return compares;
    }

    boolean condition(Reading r, int[] letters, int depth) {
        boolean v = truth(r, letters, depth);
        while (r.eats('|')) v |= truth(r, letters, depth);
        return v;
    }

    boolean truth(Reading r, int[] letters, int depth) {
        boolean v = unit(r, letters, depth);
        while (r.eats('&')) v &= unit(r, letters, depth);
        return v;
    }

    boolean unit(Reading r, int[] letters, int depth) {
        if (r.sign() == '!' || r.sign() == '(') {
            if (depth == 6) throw new Wrong(r.at);
            if (r.eats('!')) return !unit(r, letters, depth + 1);
            r.next();
            boolean v = condition(r, letters, depth + 1);
            r.must(')');
            return v;
        }
        int a = sum(r, letters, depth);
        int c = r.sign();
        if (c != '=' && c != '<' && c != '>') throw new Wrong(r.at);
        r.next();
        int b = sum(r, letters, depth);
        return c == '=' ? a == b : c == '<' ? a < b : a > b;
    }

    static int held(long v) {
        return (int) Math.max(-1000000L, Math.min(1000000L, v));
    }

    int sum(Reading r, int[] letters, int depth) {
        int v = term(r, letters, depth);
        while (true) {
            if (r.eats('+')) v = held((long) v + term(r, letters, depth));
            else if (r.eats('-')) v = held((long) v - term(r, letters, depth));
            else return v;
        }
    }

    int term(Reading r, int[] letters, int depth) {
        int v = atom(r, letters, depth);
        while (true) {
            if (r.eats('*')) {
                v = held((long) v * atom(r, letters, depth));
            } else if (r.eats('/')) {
                int by = atom(r, letters, depth);
                v = by == 0 ? 0 : v / by;
            } else {
                return v;
            }
        }
    }

    int atom(Reading r, int[] letters, int depth) {
        if (r.digit()) return r.number(4, 9999);
        if (r.sign() == '[') {
            if (depth == 6) throw new Wrong(r.at);
            r.next();
            int v = sum(r, letters, depth + 1);
            r.must(']');
            return v;
        }
        int i = r.sign() < 0 ? -1 : "qhlmnp".indexOf(r.sign());
        if (i < 0) throw new Wrong(r.at);
        r.next();
        return letters[i];
    }

    int fault(int sort) {
        if (sort < 0 || sort > 2) return -2;
        try {
            if (sort == 0) readHouse(tape);
            else if (sort == 1) worth(tape, 0, 0, 0, 0, 0, 0);
            else readWinter(tape);
            return NONE;
        } catch (Wrong w) {
            return w.at;
        }
    }

    int feed(int... words) {
        StringBuilder b = new StringBuilder(tape);
        for (int w : words)
            for (int k = 3; k >= 0; k--) {
                int c = (w >> (8 * k)) & 0xff;
                if (c != 0) b.append((char) c);
            }
        if (b.length() > 240) return NONE;
        tape = b.toString();
        return tape.length();
    }

    boolean end(int n) {
        if (n < 0 || n > tape.length()) return false;
        tape = tape.substring(0, n);
        return true;
    }

    int text(int sort) {
        if (fault(sort) != NONE) return NONE;
        int answer;
        if (sort == 0) {
            Told told = readHouse(tape);
            guests = told.guests.size();
            drinks = told.drinks.size();
            wages = told.rules[1];
            more = told.rules[2];
            now = new State();
            now.bottle = told.rules[0];
            for (int i = 0; i < drinks; i++) {
                quality[i] = told.drinks.get(i)[0];
                now.price[i] = told.drinks.get(i)[1];
            }
            for (int i = 0; i < guests; i++) {
                likes[i] = told.guests.get(i)[0];
                now.money[i] = told.guests.get(i)[1];
                now.mood[i] = told.guests.get(i)[2];
            }
            past.clear();
            image = null;
            sightings.clear();
            answer = guests;
        } else if (sort == 1) {
            if (laws.size() == 4) return NONE;
            laws.add(tape);
            answer = laws.size() - 1;
        } else {
            if (winters.size() == 4) return NONE;
            winters.add(readWinter(tape));
            answer = winters.size() - 1;
        }
        tape = "";
        return answer;
    }

    // ---- a visit

    boolean isGuest(int g) {
        return g >= 0 && g < guests;
    }

    boolean isDrink(int d) {
        return d >= 0 && d < drinks;
    }

    int joy(int like, int drink) {
        return quality[drink] + (like == drink ? more : 0);
    }

    static int moodThen(int mood, int joy) {
        if (joy >= 6) return mood == 9 ? 9 : mood + 1;
        if (joy < 4) return mood == 0 ? 0 : mood - 1;
        return mood;
    }

    int bring(int[] prices, int like, int mood, int money, int ahead, int got) {
        int h = moodThen(mood, joy(like, got));
        int wish = (quality[got] + h) / 2;
        if (holds != NONE) {
            wish = worth(laws.get(holds), quality[got], h, like == got ? 1 : 0, money, ahead, prices[got]);
            wish = wish < 0 ? 0 : wish > 9 ? 9 : wish;
        }
        TreeMap<Integer, Integer> order = new TreeMap<>();
        for (int d = 0; d < drinks; d++)
            if (prices[d] <= money) order.put((Math.abs(quality[d] - wish) * 100 + prices[d]) * 10 + d, d);
        return order.isEmpty() ? NONE : order.firstEntry().getValue();
    }

    /** JOY of the visit. */
    int come(State s, int g) {
        int got = s.bottle;
        int j = joy(likes[g], got);
        int b = bring(s.price, likes[g], s.mood[g], s.money[g], s.visits, got);
        s.mood[g] = moodThen(s.mood[g], j);
        s.joy[g] += j;
        s.visits++;
        if (b != NONE) {
            s.money[g] -= s.price[b];
            s.bottle = b;
        }
        s.book.add(0, new int[] {g, got, b, j});
        if (s.book.size() > 60) s.book.remove(60);
        return j;
    }

    boolean pass(State s) {
        if (guests == 0 || s.month == 999) return false;
        s.month++;
        s.put = false;
        for (int g = 0; g < guests; g++) s.money[g] = Math.min(99, s.money[g] + wages);
        return true;
    }

    boolean put(State s, int d) {
        if (!isDrink(d) || d == s.bottle || s.put) return false;
        s.bottle = d;
        s.put = true;
        return true;
    }

    boolean go(State s, String step) {
        if (step.equals("m")) return pass(s);
        int digit = step.charAt(1) - '0';
        if (step.charAt(0) == 'h') return put(s, digit);
        if (!isGuest(digit)) return false;
        come(s, digit);
        return true;
    }

    /** Tries a step as an act. */
    boolean act(String step) {
        State before = now.copy();
        if (!go(now, step)) return false;
        keep(before);
        return true;
    }

    void keep(State before) {
        past.add(before);
        if (past.size() > 40) past.remove(0);
    }

    int visit(int g) {
        return isGuest(g) && act("g" + g) ? now.bottle : NONE;
    }

    int month() {
        return act("m") ? now.month : NONE;
    }

    boolean host(int d) {
        return isDrink(d) && act("h" + d);
    }

    int pay(int g, int n) {
        if (!isGuest(g) || n < 1 || n > 50 || now.money[g] + n > 99) return NONE;
        keep(now.copy());
        return now.money[g] += n;
    }

    int price(int d, int v) {
        if (!isDrink(d) || v < 0 || v > 60 || now.price[d] == v) return NONE;
        keep(now.copy());
        int was = now.price[d];
        now.price[d] = v;
        return was;
    }

    int years(int n, long seed) {
        if (guests == 0 || n < 1 || n > 60) return NONE;
        long[] x = {seed};
        int visits = 0;
        for (int i = 0; i < n; i++) {
            if (draw(x, 10) < snow) {
                keep(now.copy());
                pass(now);
            } else {
                act("g" + draw(x, guests));
                visits++;
            }
        }
        return visits;
    }

    static int draw(long[] x, int of) {
        x[0] = x[0] * 6364136223846793005L + 1442695040888963407L;
        return (int) (Long.divideUnsigned(x[0], 1L << 33) % of);
    }

    int undo() {
        if (past.isEmpty()) return NONE;
        now = past.remove(past.size() - 1);
        return past.size();
    }

    // ---- looks

    int rule(int what) {
        if (guests == 0 || what < 0 || what > 2) return NONE;
        return new int[] {now.bottle, wages, more}[what];
    }

    int drink(int d, int what) {
        if (!isDrink(d) || what < 0 || what > 1) return NONE;
        return what == 0 ? quality[d] : now.price[d];
    }

    int guest(int g, int what) {
        if (!isGuest(g) || what < 0 || what > 3) throw new NoSuchElementException();
        return new int[] {likes[g], now.money[g], now.mood[g], now.joy[g]}[what];
    }

    boolean law(int l) {
        if (l < -1 || l >= laws.size()) return false;
        holds = l;
        return true;
    }

    boolean snow(int v) {
        if (v < 0 || v > 9 || v == snow) return false;
        snow = v;
        return true;
    }

    int book(int i, int what) {
        return i < 0 || i >= now.book.size() || what < 0 || what > 3 ? HIDDEN : now.book.get(i)[what];
    }

    boolean isWinter(int w) {
        return w >= 0 && w < winters.size();
    }

    int step(int w, int i, int what) {
        if (!isWinter(w) || i < 0 || i >= winters.get(w).size() || what < 0 || what > 1) return HIDDEN;
        String s = winters.get(w).get(i);
        if (what == 0) return "gmh".indexOf(s.charAt(0));
        return s.length() == 1 ? NONE : s.charAt(1) - '0';
    }

    int run(int w, int what) {
        if (!isWinter(w) || guests == 0 || what < 0 || what > 1) return HIDDEN;
        State s = now.copy();
        int done = 0;
        while (done < winters.get(w).size() && go(s, winters.get(w).get(done))) done++;
        if (what == 0) return done == winters.get(w).size() ? NONE : done;
        return Arrays.stream(s.joy).sum() - Arrays.stream(now.joy).sum();
    }

    int perform(int w) {
        if (!isWinter(w) || guests == 0) return NONE;
        int done = 0;
        while (done < winters.get(w).size() && act(winters.get(w).get(done))) done++;
        return done;
    }

    int round(int w) {
        if (!isWinter(w) || guests == 0) return NONE;
        State s = now.copy();
        for (int t = 1; t <= 30; t++) {
            for (String step : winters.get(w)) if (!go(s, step)) return NONE;
            if (s.bottle == now.bottle) return t;
        }
        return NONE;
    }

    // ---- rows: all numbers of so many digits, one behind the other

    List<int[]> rowsOf(int n, int kinds, boolean unlike) {
        List<int[]> all = new ArrayList<>();
        int many = 1;
        for (int i = 0; i < n; i++) many *= kinds;
        for (int v = 0; v < many; v++) {
            int[] row = new int[n];
            int rest = v;
            for (int i = n - 1; i >= 0; i--) {
                row[i] = rest % kinds;
                rest /= kinds;
            }
            if (!unlike || Arrays.stream(row).distinct().count() == n) all.add(row);
        }
        return all;
    }

    static int number(int[] row) {
        int v = 0;
        for (int d : row) v = v * 10 + d;
        return v;
    }

    int[] most(List<int[]> rows) {
        int[] best = {0, -1};
        for (int[] row : rows) {
            State s = now.copy();
            int j = 0;
            for (int g : row) j += come(s, g);
            if (j > best[1]) best = new int[] {number(row), j};
        }
        return best;
    }

    int bottleBehind(int[] row) {
        State s = now.copy();
        for (int g : row) come(s, g);
        return s.bottle;
    }

    int best(int what) {
        return guests == 0 || what < 0 || what > 1 ? NONE : most(rowsOf(guests, guests, true))[what];
    }

    int comes(int n, int what) {
        if (guests == 0 || n < 1 || n > 4 || what < 0 || what > 1) return NONE;
        return most(rowsOf(n, guests, false))[what];
    }

    int soonest(int d, int what) {
        if (!isDrink(d) || what < 0 || what > 1) return NONE;
        for (int n = 0; n <= 4; n++)
            for (int[] row : rowsOf(n, guests, false)) if (bottleBehind(row) == d) return what == 0 ? n : number(row);
        return NONE;
    }

    int ends(int what) {
        if (guests == 0 || what < 0 || what > 1) return NONE;
        for (int n = 0; n <= 4; n++)
            for (int[] row : rowsOf(n, guests, false))
                if (bottleBehind(row) != now.bottle) return what == 0 ? n : number(row);
        return NONE;
    }

    int pick(List<Integer> all, int i) {
        return i == NONE ? all.size() : i >= 0 && i < all.size() ? all.get(i) : NONE;
    }

    int who(int d, int k, int i) {
        if (!isDrink(d) || k < 1 || k > 3) return NONE;
        List<Integer> all = new ArrayList<>();
        for (int[] row : rowsOf(k, guests, true)) if (bottleBehind(row) == d) all.add(number(row));
        return pick(all, i);
    }

    int odds(int d, int n) {
        if (!isDrink(d) || n < 0 || n > 4) return NONE;
        int part = 1000000;
        for (int i = 0; i < n; i++) part /= guests;
        int sum = 0;
        for (int[] row : rowsOf(n, guests, false)) if (bottleBehind(row) == d) sum += part;
        return sum;
    }

    int seen(int g, int got, int money, int brought) {
        if (!isGuest(g) || !isDrink(got) || brought != NONE && !isDrink(brought)) return NONE;
        if (money < 0 || money > 99 || sightings.size() == 10) return NONE;
        sightings.add(new int[] {g, got, money, brought});
        return sightings.size();
    }

    List<Integer> fitting(int g) {
        List<Integer> all = new ArrayList<>();
        for (int v = 0; v < 10 * drinks; v++) {
            int c = v;
            if (sightings.stream().allMatch(
                    s -> s[0] != g || bring(now.price, c / 10, c % 10, s[2], 0, s[1]) == s[3])) all.add(v);
        }
        return all;
    }

    int fits(int g, int i) {
        return isGuest(g) ? pick(fitting(g), i) : NONE;
    }

    int serve(int g, int money) {
        if (!isGuest(g) || money < 0 || money > 99) return NONE;
        List<Integer> all = fitting(g);
        if (all.isEmpty()) return NONE;
        int best = NONE, least = Integer.MAX_VALUE;
        for (int d = 0; d < drinks; d++) {
            TreeMap<Integer, Integer> parts = new TreeMap<>();
            for (int v : all) parts.merge(bring(now.price, v / 10, v % 10, money, 0, d), 1, Integer::sum);
            int most = parts.values().stream().max(Integer::compare).orElse(0);
            if (most < least) {
                least = most;
                best = d;
            }
        }
        return best;
    }

    int game(int one, int other, int x, int y, int what) {
        if (!isGuest(one) || !isGuest(other) || one == other || !isDrink(x) || !isDrink(y)) return HIDDEN;
        if (what == 0) return joy(likes[one], y) - now.price[x] / 3;
        return what == 1 ? joy(likes[other], x) - now.price[y] / 3 : HIDDEN;
    }

    int rests(int one, int other, int i) {
        if (!isGuest(one) || !isGuest(other) || one == other) return NONE;
        List<Integer> all = new ArrayList<>();
        for (int x = 0; x < drinks; x++)
            for (int y = 0; y < drinks; y++) {
                boolean rest = true;
                for (int z = 0; z < drinks; z++) {
                    rest &= game(one, other, z, y, 0) <= game(one, other, x, y, 0);
                    rest &= game(one, other, x, z, 1) <= game(one, other, x, y, 1);
                }
                if (rest) all.add(10 * x + y);
            }
        return pick(all, i);
    }

    int dealt(int what) {
        if (guests == 0 || drinks < guests || what < 0 || what > 1) return NONE;
        int[] best = {0, -1};
        for (int[] row : rowsOf(guests, drinks, true)) {
            int j = 0;
            for (int g = 0; g < guests; g++) j += joy(likes[g], row[g]);
            if (j > best[1]) best = new int[] {number(row), j};
        }
        return best[what];
    }

    int makes(int g, int d) {
        if (!isGuest(g) || !isDrink(d)) return HIDDEN;
        return bring(now.price, likes[g], now.mood[g], now.money[g], now.visits, d);
    }

    int glad(int g) {
        return isGuest(g) ? joy(likes[g], now.bottle) : NONE;
    }

    int all(int what) {
        if (guests == 0 || what < 0 || what > 7) return NONE;
        int at = 0;
        int sum = 0;
        switch (what) {
            case 0: for (int g = 0; g < guests; g++) if (now.mood[g] < now.mood[at]) at = g; return at;
            case 1: for (int g = 0; g < guests; g++) if (now.money[g] > now.money[at]) at = g; return at;
            case 2: for (int g = 0; g < guests; g++) if (now.joy[g] > now.joy[at]) at = g; return at;
            case 3:
                int[] by = new int[6];
                for (int g = 0; g < guests; g++) by[likes[g]]++;
                for (int d = 0; d < drinks; d++) if (by[d] > by[at]) at = d;
                return at;
            case 4:
                for (int[] line : now.book) sum += quality[line[1]];
                return now.book.isEmpty() ? 0 : sum / now.book.size();
            case 5: return (int) now.book.stream().filter(l -> l[2] == NONE).count();
            case 6: return Arrays.stream(now.price, 0, drinks).min().orElse(0);
            default:
                for (int g = 0; g < guests; g++) {
                    int b = makes(g, now.bottle);
                    if (b != NONE && quality[b] > quality[now.bottle]) sum |= 1 << g;
                }
                return sum;
        }
    }

    int affords(int g) {
        if (!isGuest(g)) return NONE;
        int bits = 0;
        for (int d = 0; d < drinks; d++) if (now.price[d] <= now.money[g]) bits |= 1 << d;
        return bits;
    }

    int brought(int d) {
        return isDrink(d) ? (int) now.book.stream().filter(l -> l[2] == d).count() : NONE;
    }

    int saves(int g, int d) {
        if (!isGuest(g) || !isDrink(d)) return NONE;
        int money = now.money[g];
        for (int n = 0; n <= 99; n++) {
            if (money >= now.price[d]) return n;
            money = Math.min(99, money + wages);
        }
        return NONE;
    }

    int image() {
        if (guests == 0) return NONE;
        image = now.copy();
        return now.visits;
    }

    int back() {
        if (image == null) return NONE;
        now = image.copy();
        past.clear();
        return now.visits;
    }

    int count(int what) {
        int[] all = {guests, drinks, laws.size(), winters.size(), tape.length(), holds, now.visits, now.month,
            Arrays.stream(now.joy).sum(), snow, sightings.size(), now.put ? 1 : 0, now.book.size(), past.size()};
        return what < 0 || what > 13 ? HIDDEN : all[what];
    }
}
