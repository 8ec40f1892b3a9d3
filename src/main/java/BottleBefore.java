import java.util.Arrays;
import java.util.NoSuchElementException;

/** A house in which each guest drinks what the guest before brought; ../shared/DOC.md has its promises. */
public final class BottleBefore {
    public static final int NONE = -1;
    public static final int HIDDEN = -1000000;

    private static final int NO_SORT = -2;
    private static final int MOST_OF_A_KIND = 6;
    private static final int MOST_TEXTS = 4;
    private static final int MOST_MONEY = 99;
    private static final int MOST_PRICE = 60;
    private static final int MOST_PAID = 50;
    private static final int MOST_MONTHS = 999;
    private static final int MOST_SAVED = 99;
    private static final int MOST_YEARS = 60;
    private static final int MOST_ROUNDS = 30;
    private static final int MOST_VISITS_AHEAD = 4;
    private static final int MOST_BETWEEN = 3;
    private static final int WHOLE = 1000000;
    private static final int SNOW_DRAW = 10;
    private static final int USUAL_SNOW = 2;
    private static final int GUEST_STEP = 0;
    private static final int MONTH_STEP = 1;
    private static final int HOST_STEP = 2;

    private final Tape tape = new Tape();
    private final HouseReader houseReader = new HouseReader();
    private final LawReader lawReader = new LawReader();
    private final WinterReader winterReader = new WinterReader();
    private final int[][] winters = new int[MOST_TEXTS][0];
    private final Memory memory = new Memory();
    private final House house;
    private final Laws laws;
    private final Table table;
    private final Table apart;
    private final Rows rows;
    private final Sightings sightings;
    private int wintersTold;
    private int snowiness = USUAL_SNOW;

    public BottleBefore() {
        House ours = new House();
        Laws told = new Laws();
        Table now = new Table(ours, told);
        Table then = new Table(ours, told);
        house = ours;
        laws = told;
        table = now;
        apart = then;
        rows = new Rows(ours, now, then);
        sightings = new Sightings(ours, now);
    }

    // ---- the tape and the texts

    public int feed(int a, int b, int c, int d, int e) {
        int more = Tape.bytesOf(a) + Tape.bytesOf(b) + Tape.bytesOf(c) + Tape.bytesOf(d) + Tape.bytesOf(e);
        if (tape.length + more > Tape.MOST) {
            return NONE;
        }
        tape.add(a);
        tape.add(b);
        tape.add(c);
        tape.add(d);
        tape.add(e);
        return tape.length;
    }

    public boolean end(int n) {
        if (n < 0 || n > tape.length) {
            return false;
        }
        tape.length = n;
        return true;
    }

    public int fault(int sort) {
        Reader reader = readerOf(sort);
        return reader == null ? NO_SORT : reader.faultOf(tape);
    }

    public int text(int sort) {
        Reader reader = readerOf(sort);
        if (reader == null || reader.faultOf(tape) != NONE) {
            return NONE;
        }
        int answer;
        if (sort == 0) {
            answer = settleHouse();
        } else if (sort == 1) {
            answer = laws.add(lawReader);
        } else {
            answer = addWinter();
        }
        if (answer != NONE) {
            tape.length = 0;
        }
        return answer;
    }

    private Reader readerOf(int sort) {
        if (sort == 0) {
            return houseReader;
        }
        if (sort == 1) {
            return lawReader;
        }
        return sort == 2 ? winterReader : null;
    }

    private int settleHouse() {
        house.settle(houseReader);
        table.settle(houseReader);
        memory.forgetAll();
        sightings.length = 0;
        return house.guests;
    }

    private int addWinter() {
        if (wintersTold >= MOST_TEXTS) {
            return NONE;
        }
        winters[wintersTold] = winterReader.stepsRead();
        wintersTold++;
        return wintersTold - 1;
    }

    // ---- what is so

    public int rule(int what) {
        if (!house.isTold()) {
            return NONE;
        }
        switch (what) {
            case 0:
                return table.bottle();
            case 1:
                return house.wages;
            case 2:
                return house.more;
            default:
                return NONE;
        }
    }

    public int drink(int drink, int what) {
        if (!house.hasDrink(drink)) {
            return NONE;
        }
        if (what == 0) {
            return house.quality[drink];
        }
        return what == 1 ? table.priceOf(drink) : NONE;
    }

    public int guest(int guest, int what) throws NoSuchElementException {
        if (!house.hasGuest(guest) || what < 0 || what > 3) {
            throw new NoSuchElementException("no such guest, or nothing such of it");
        }
        switch (what) {
            case 0:
                return house.likes[guest];
            case 1:
                return table.moneyOf(guest);
            case 2:
                return table.moodOf(guest);
            default:
                return table.joyOf(guest);
        }
    }

    public boolean law(int law) {
        if (law < NONE || law >= laws.told) {
            return false;
        }
        laws.holding = law;
        return true;
    }

    public boolean snow(int v) {
        if (v < 0 || v > 9 || v == snowiness) {
            return false;
        }
        snowiness = v;
        return true;
    }

    // ---- acts

    public int visit(int guest) {
        return act(GUEST_STEP, guest) ? table.bottle() : NONE;
    }

    public int month() {
        return act(MONTH_STEP, 0) ? table.monthNow() : NONE;
    }

    public boolean host(int drink) {
        return act(HOST_STEP, drink);
    }

    public int pay(int guest, int n) {
        if (!house.hasGuest(guest) || n < 1 || n > MOST_PAID || table.moneyOf(guest) + n > MOST_MONEY) {
            return NONE;
        }
        memory.keep(table.cells);
        table.give(guest, n);
        return table.moneyOf(guest);
    }

    public int price(int drink, int v) {
        if (!house.hasDrink(drink) || v < 0 || v > MOST_PRICE || v == table.priceOf(drink)) {
            return NONE;
        }
        int before = table.priceOf(drink);
        memory.keep(table.cells);
        table.setPrice(drink, v);
        return before;
    }

    public int years(int n, long seed) {
        if (!house.isTold() || n < 1 || n > MOST_YEARS) {
            return NONE;
        }
        int before = table.visits();
        long x = seed;
        for (int i = 0; i < n; i++) {
            x = stirred(x);
            if (drawn(x, SNOW_DRAW) < snowiness) {
                snowedIn();
            } else {
                x = stirred(x);
                act(GUEST_STEP, drawn(x, house.guests));
            }
        }
        return table.visits() - before;
    }

    private void snowedIn() {
        // Each year is one act, also the one by which nothing changes: it is undone as the others are.
        if (!act(MONTH_STEP, 0)) {
            memory.keep(table.cells);
        }
    }

    public int undo() {
        return memory.takeBack(table.cells) ? memory.kept : NONE;
    }

    private boolean act(int kind, int digit) {
        if (!table.canBe(kind, digit)) {
            return false;
        }
        memory.keep(table.cells);
        if (kind == GUEST_STEP) {
            int drank = table.bottle();
            int joy = table.gladness(digit);
            int brought = table.receive(digit);
            memory.write(table.visits(), digit, drank, brought, joy);
        } else {
            table.carry(kind, digit);
        }
        return true;
    }

    private static long stirred(long x) {
        return x * 6364136223846793005L + 1442695040888963407L;
    }

    private static int drawn(long x, int of) {
        return of < 1 ? 0 : (int) ((x >>> 33) % of);
    }

    // ---- the guest book and the winters

    public int book(int i, int what) {
        if (i < 0 || i >= Memory.bookLength(table.visits()) || what < 0 || what > 3) {
            return HIDDEN;
        }
        return memory.line(table.visits() - i, what);
    }

    public int step(int winter, int i, int what) {
        if (!hasWinter(winter) || i < 0 || i >= winters[winter].length || what < 0 || what > 1) {
            return HIDDEN;
        }
        int kind = winters[winter][i] / 10;
        if (what == 0) {
            return kind;
        }
        return kind == MONTH_STEP ? NONE : winters[winter][i] % 10;
    }

    public int run(int winter, int what) {
        if (!house.isTold() || !hasWinter(winter) || what < 0 || what > 1) {
            return HIDDEN;
        }
        apart.copy(table);
        int behind = apart.goThrough(winters[winter]);
        if (what == 1) {
            return apart.joyOfAll() - table.joyOfAll();
        }
        return behind == winters[winter].length ? NONE : behind;
    }

    public int perform(int winter) {
        if (!house.isTold() || !hasWinter(winter)) {
            return NONE;
        }
        int[] steps = winters[winter];
        for (int i = 0; i < steps.length; i++) {
            if (!act(steps[i] / 10, steps[i] % 10)) {
                return i;
            }
        }
        return steps.length;
    }

    public int round(int winter) {
        if (!house.isTold() || !hasWinter(winter)) {
            return NONE;
        }
        apart.copy(table);
        for (int times = 1; times <= MOST_ROUNDS; times++) {
            if (apart.goThrough(winters[winter]) < winters[winter].length) {
                return NONE;
            }
            if (apart.bottle() == table.bottle()) {
                return times;
            }
        }
        return NONE;
    }

    private boolean hasWinter(int winter) {
        return winter >= 0 && winter < wintersTold;
    }

    // ---- rows of visits

    public int best(int what) {
        if (!house.isTold() || what < 0 || what > 1) {
            return NONE;
        }
        rows.search(house.guests, true);
        return what == 0 ? rows.topRow : rows.topJoy;
    }

    public int comes(int n, int what) {
        if (!house.isTold() || n < 1 || n > MOST_VISITS_AHEAD || what < 0 || what > 1) {
            return NONE;
        }
        rows.search(n, false);
        return what == 0 ? rows.topRow : rows.topJoy;
    }

    public int soonest(int drink, int what) {
        if (!house.hasDrink(drink) || what < 0 || what > 1) {
            return NONE;
        }
        rows.aim(drink, false, 0);
        return fewest(what);
    }

    public int ends(int what) {
        if (!house.isTold() || what < 0 || what > 1) {
            return NONE;
        }
        rows.aim(table.bottle(), true, 0);
        return fewest(what);
    }

    private int fewest(int what) {
        for (int n = 0; n <= MOST_VISITS_AHEAD; n++) {
            rows.search(n, false);
            if (rows.hits > 0) {
                return what == 0 ? n : rows.hitRow;
            }
        }
        return NONE;
    }

    public int who(int drink, int k, int i) {
        if (!house.hasDrink(drink) || k < 1 || k > MOST_BETWEEN) {
            return NONE;
        }
        rows.aim(drink, false, i);
        rows.search(k, true);
        if (i == NONE) {
            return rows.hits;
        }
        return i >= 0 && i < rows.hits ? rows.hitRow : NONE;
    }

    public int odds(int drink, int n) {
        if (!house.hasDrink(drink) || n < 0 || n > MOST_VISITS_AHEAD) {
            return NONE;
        }
        rows.aim(drink, false, NONE);
        rows.search(n, false);
        return rows.hitParts;
    }

    // ---- what was seen

    public int seen(int guest, int got, int money, int brought) {
        boolean known = house.hasGuest(guest) && house.hasDrink(got) && (brought == NONE || house.hasDrink(brought));
        if (!known || money < 0 || money > MOST_MONEY || sightings.length >= Sightings.MOST) {
            return NONE;
        }
        sightings.add(guest, got, money, brought);
        return sightings.length;
    }

    public int fits(int guest, int i) {
        if (!house.hasGuest(guest)) {
            return NONE;
        }
        int many = sightings.gather(guest);
        if (i == NONE) {
            return many;
        }
        return i >= 0 && i < many ? sightings.fitting[i] : NONE;
    }

    public int serve(int guest, int money) {
        if (!house.hasGuest(guest) || money < 0 || money > MOST_MONEY) {
            return NONE;
        }
        return sightings.telling(sightings.gather(guest), money);
    }

    // ---- games and deals

    public int game(int one, int other, int x, int y, int what) {
        boolean two = house.hasGuest(one) && house.hasGuest(other) && one != other;
        if (!two || !house.hasDrink(x) || !house.hasDrink(y) || what < 0 || what > 1) {
            return HIDDEN;
        }
        return what == 0 ? table.share(one, y, x) : table.share(other, x, y);
    }

    public int rests(int one, int other, int i) {
        if (!house.hasGuest(one) || !house.hasGuest(other) || one == other) {
            return NONE;
        }
        int many = 0;
        for (int x = 0; x < house.drinks; x++) {
            for (int y = 0; y < house.drinks; y++) {
                if (table.stays(one, y, x) && table.stays(other, x, y)) {
                    if (many == i) {
                        return 10 * x + y;
                    }
                    many++;
                }
            }
        }
        return i == NONE ? many : NONE;
    }

    public int dealt(int what) {
        if (!house.isTold() || house.drinks < house.guests || what < 0 || what > 1) {
            return NONE;
        }
        rows.searchDeals();
        return what == 0 ? rows.topRow : rows.topJoy;
    }

    // ---- looks at the house

    public int makes(int guest, int drink) {
        if (!house.hasGuest(guest) || !house.hasDrink(drink)) {
            return HIDDEN;
        }
        return table.wouldBring(guest, drink);
    }

    public int glad(int guest) {
        return house.hasGuest(guest) ? table.gladness(guest) : NONE;
    }

    public int all(int what) {
        if (!house.isTold()) {
            return NONE;
        }
        switch (what) {
            case 0:
                return table.sourest();
            case 1:
                return table.richest();
            case 2:
                return table.merriest();
            case 3:
                return house.mostLiked();
            case 4:
                return memory.middle(table.visits(), house);
            case 5:
                return memory.timesBrought(table.visits(), NONE);
            case 6:
                return table.leastPrice();
            case 7:
                return table.nobles();
            default:
                return NONE;
        }
    }

    public int affords(int guest) {
        return house.hasGuest(guest) ? table.payable(guest) : NONE;
    }

    public int brought(int drink) {
        return house.hasDrink(drink) ? memory.timesBrought(table.visits(), drink) : NONE;
    }

    public int saves(int guest, int drink) {
        if (!house.hasGuest(guest) || !house.hasDrink(drink)) {
            return NONE;
        }
        for (int months = 0; months <= MOST_SAVED; months++) {
            if (table.moneyOf(guest) + months * house.wages >= table.priceOf(drink)) {
                return months;
            }
        }
        return NONE;
    }

    public int image() {
        if (!house.isTold()) {
            return NONE;
        }
        memory.takeImage(table.cells);
        return table.visits();
    }

    public int back() {
        return memory.goBack(table.cells) ? table.visits() : NONE;
    }

    public int count(int what) {
        switch (what) {
            case 0:
                return house.guests;
            case 1:
                return house.drinks;
            case 2:
                return laws.told;
            case 3:
                return wintersTold;
            case 4:
                return tape.length;
            case 5:
                return laws.holding;
            case 6:
                return table.visits();
            case 7:
                return table.monthNow();
            case 8:
                return table.joyOfAll();
            case 9:
                return snowiness;
            case 10:
                return sightings.length;
            case 11:
                return table.hostPut();
            case 12:
                return Memory.bookLength(table.visits());
            case 13:
                return memory.kept;
            default:
                return HIDDEN;
        }
    }

    /** The bytes that were fed and are not yet a text of the house. */
    private static final class Tape {
        static final int MOST = 240;

        final int[] bytes = new int[MOST];
        int length;

        static int bytesOf(int word) {
            int many = 0;
            for (int shift = 24; shift >= 0; shift -= 8) {
                if (((word >>> shift) & 255) != 0) {
                    many++;
                }
            }
            return many;
        }

        void add(int word) {
            for (int shift = 24; shift >= 0; shift -= 8) {
                int sign = (word >>> shift) & 255;
                if (sign != 0 && length < MOST) {
                    bytes[length] = sign;
                    length++;
                }
            }
        }

        int signAt(int i) {
            return i >= 0 && i < length && i < MOST ? bytes[i] : NONE;
        }
    }

    /** Reads a text sign by sign, so that the first sign it does not take is the fault. */
    private abstract static class Reader {
        static final int BLANK = 32;

        abstract void start();

        /** next: the byte right behind the sign; joined: no blank (and no start) right ahead of it. */
        abstract boolean takes(int sign, int next, boolean joined);

        abstract boolean closes();

        final int faultOf(Tape tape) {
            start();
            boolean joined = false;
            for (int i = 0; i < tape.length; i++) {
                int sign = tape.signAt(i);
                if (sign != BLANK && !takes(sign, tape.signAt(i + 1), joined)) {
                    return i;
                }
                joined = sign != BLANK;
            }
            return closes() ? NONE : tape.length;
        }

        static boolean isDigit(int sign) {
            return sign >= '0' && sign <= '9';
        }
    }

    private static final class HouseReader extends Reader {
        private static final int CLAUSE = 0;
        private static final int ITEM = 1;
        private static final int NUMBER = 2;
        // Where the items of s, d and g stand in the two rows below, and in the values of one told house.
        private static final int RULE_ITEMS = 0;
        private static final int DRINK_ITEMS = 3;
        private static final int GUEST_ITEMS = 5;
        private static final int[] USUAL = {0, 5, 3, 5, 5, 0, 20, 5};
        private static final int[] MOST = {5, 30, 9, 9, 60, 5, 99, 9};
        private static final int DRINK_VALUES = 3;
        private static final int GUEST_VALUES = 15;

        private final int[] values = new int[GUEST_VALUES + 3 * MOST_OF_A_KIND];
        private int awaits;
        private int rulesTold;
        private int drinksTold;
        private int guestsTold;
        private String letters = "";
        private int firstItem;
        private int firstValue;
        private int lettersUsed;
        private int letter;
        private int digits;
        private int number;

        void start() {
            rulesTold = 0;
            drinksTold = 0;
            guestsTold = 0;
            begin("bwj", RULE_ITEMS, 0);
            awaits = CLAUSE;
        }

        boolean takes(int sign, int next, boolean joined) {
            if (awaits == CLAUSE) {
                return takesClause(sign);
            }
            if (isDigit(sign)) {
                boolean inNumber = awaits == NUMBER || joined && digits == 1;
                return inNumber && takesDigit(sign, next);
            }
            if (awaits == NUMBER) {
                return false;
            }
            if (sign == ';') {
                awaits = CLAUSE;
                return true;
            }
            return takesLetter(sign);
        }

        private boolean takesClause(int sign) {
            if (sign == 's' && rulesTold < 1) {
                begin("bwj", RULE_ITEMS, 0);
                rulesTold++;
                return true;
            }
            if (sign == 'd' && drinksTold < MOST_OF_A_KIND) {
                begin("qp", DRINK_ITEMS, DRINK_VALUES + 2 * drinksTold);
                drinksTold++;
                return true;
            }
            if (sign == 'g' && guestsTold < MOST_OF_A_KIND) {
                begin("lmh", GUEST_ITEMS, GUEST_VALUES + 3 * guestsTold);
                guestsTold++;
                return true;
            }
            return false;
        }

        private void begin(String itsLetters, int item, int value) {
            letters = itsLetters;
            firstItem = item;
            firstValue = value;
            lettersUsed = 0;
            digits = 0;
            awaits = ITEM;
            for (int i = 0; i < itsLetters.length(); i++) {
                values[value + i] = USUAL[item + i];
            }
        }

        private boolean takesLetter(int sign) {
            letter = letters.indexOf((char) sign);
            if (letter < 0 || (lettersUsed >> letter & 1) == 1) {
                return false;
            }
            lettersUsed |= 1 << letter;
            digits = 0;
            number = 0;
            awaits = NUMBER;
            return true;
        }

        // Only the last digit of a number is held against the bounds: a third one is wrong by itself.
        private boolean takesDigit(int sign, int next) {
            number = number * 10 + sign - '0';
            digits++;
            awaits = ITEM;
            if (isDigit(next)) {
                return true;
            }
            values[firstValue + letter] = number;
            return number <= MOST[firstItem + letter];
        }

        boolean closes() {
            if (awaits != ITEM || drinksTold < 2 || guestsTold < 1 || bottleTold() >= drinksTold) {
                return false;
            }
            for (int guest = 0; guest < guestsTold; guest++) {
                if (likeTold(guest) >= drinksTold) {
                    return false;
                }
            }
            return true;
        }

        int bottleTold() {
            return values[0];
        }

        int wagesTold() {
            return values[1];
        }

        int moreTold() {
            return values[2];
        }

        int qualityTold(int drink) {
            return values[DRINK_VALUES + 2 * drink];
        }

        int priceTold(int drink) {
            return values[DRINK_VALUES + 2 * drink + 1];
        }

        int likeTold(int guest) {
            return values[GUEST_VALUES + 3 * guest];
        }

        int moneyTold(int guest) {
            return values[GUEST_VALUES + 3 * guest + 1];
        }

        int moodTold(int guest) {
            return values[GUEST_VALUES + 3 * guest + 2];
        }
    }

    /**
     * Turns a law into words that a stack works off: a number as it is, a letter as -1 - its place,
     * any other sign as less than -6 by its own number; behind a condition comes ?, behind a sum ;.
     */
    private static final class LawReader extends Reader {
        private static final int Y = 0;
        private static final int COLON = 1;
        private static final int UNIT = 2;
        private static final int ATOM = 3;
        private static final int BEHIND_ATOM = 4;
        private static final int BEHIND_UNIT = 5;
        // A clause is open to both until a sign of a condition comes or its sum ends.
        private static final int OPEN = 0;
        private static final int CONDITION = 1;
        private static final int VALUE = 2;
        private static final int MOST_DIGITS = 4;
        private static final int MOST_WITHIN = 6;
        // Between two of ( [ ranks only rise, so that no more than 41 signs ever wait.
        private static final int MOST_WAITING = 64;

        private final int[] code = new int[Tape.MOST + 1];
        private final int[] waiting = new int[MOST_WAITING];
        private int written;
        private int waits;
        private int within;
        private int awaits;
        private int stage;
        private boolean compared;
        private int digits;

        void start() {
            written = 0;
            waits = 0;
            within = 0;
            awaits = Y;
        }

        int[] codeRead() {
            return Arrays.copyOf(code, written);
        }

        boolean takes(int sign, int next, boolean joined) {
            if (awaits == Y) {
                awaits = COLON;
                return sign == 'y';
            }
            if (awaits == COLON) {
                awaits = UNIT;
                stage = OPEN;
                compared = false;
                return sign == ':';
            }
            if (awaits == UNIT || awaits == ATOM) {
                return takesStart(sign);
            }
            if (isDigit(sign)) {
                return joined && takesDigit(sign);
            }
            return takesBehind(sign);
        }

        private boolean takesStart(int sign) {
            int letter = Laws.LETTERS.indexOf((char) sign);
            if (letter >= 0 || isDigit(sign)) {
                digits = letter >= 0 ? 0 : 1;
                write(letter >= 0 ? -1 - letter : sign - '0');
                awaits = BEHIND_ATOM;
                return true;
            }
            boolean ofCondition = awaits == UNIT && (sign == '!' || sign == '(');
            if (!ofCondition && sign != '[' || within >= MOST_WITHIN) {
                return false;
            }
            if (ofCondition) {
                stage = CONDITION;
            }
            awaits = ofCondition ? UNIT : ATOM;
            within++;
            await(sign);
            return true;
        }

        private boolean takesDigit(int sign) {
            if (digits < 1 || digits >= MOST_DIGITS || written < 1) {
                return false;
            }
            digits++;
            code[written - 1] = code[written - 1] * 10 + sign - '0';
            return true;
        }

        private boolean takesBehind(int sign) {
            digits = 0;
            int inside = enclosing();
            switch (sign) {
                case '+':
                case '-':
                case '*':
                case '/':
                    return awaits == BEHIND_ATOM && goesOn(sign, ATOM);
                case '=':
                case '<':
                case '>':
                    return awaits == BEHIND_ATOM && inside != '[' && takesComparison(sign);
                case '&':
                case '|':
                    return compared && inside != '[' && takesJoint(sign);
                case ']':
                    return inside == '[' && closesBracket(BEHIND_ATOM);
                case ')':
                    return inside == '(' && compared && closesBracket(BEHIND_UNIT);
                case '?':
                    return inside == NONE && compared && endsCondition();
                case ';':
                    return inside == NONE && stage != CONDITION && endsSum();
                default:
                    return false;
            }
        }

        private boolean goesOn(int sign, int then) {
            writeWaiting(rank(sign));
            await(sign);
            awaits = then;
            return true;
        }

        private boolean takesComparison(int sign) {
            if (compared || stage == VALUE) {
                return false;
            }
            stage = CONDITION;
            compared = true;
            return goesOn(sign, ATOM);
        }

        private boolean takesJoint(int sign) {
            compared = false;
            return goesOn(sign, UNIT);
        }

        private boolean closesBracket(int then) {
            writeWaiting(1);
            if (waits > 0) {
                waits--;
                within--;
            }
            awaits = then;
            return true;
        }

        private boolean endsCondition() {
            writeWaiting(1);
            write(-'?');
            stage = VALUE;
            compared = false;
            awaits = ATOM;
            return true;
        }

        private boolean endsSum() {
            writeWaiting(1);
            write(-';');
            awaits = Y;
            return true;
        }

        boolean closes() {
            return awaits == BEHIND_ATOM && stage != CONDITION && enclosing() == NONE && endsSum();
        }

        // The innermost ( or [ that is open; a ! has no end of its own.
        private int enclosing() {
            for (int i = waits - 1; i >= 0; i--) {
                if (waiting[i] == '(' || waiting[i] == '[') {
                    return waiting[i];
                }
            }
            return NONE;
        }

        private void writeWaiting(int least) {
            while (waits > 0 && rank(waiting[waits - 1]) >= least) {
                waits--;
                if (waiting[waits] == '!') {
                    within--;
                }
                write(-waiting[waits]);
            }
        }

        private void await(int sign) {
            if (waits < waiting.length) {
                waiting[waits] = sign;
                waits++;
            }
        }

        private void write(int word) {
            if (written < code.length) {
                code[written] = word;
                written++;
            }
        }

        private static int rank(int sign) {
            switch (sign) {
                case '*':
                case '/':
                    return 6;
                case '+':
                case '-':
                    return 5;
                case '=':
                case '<':
                case '>':
                    return 4;
                case '!':
                    return 3;
                case '&':
                    return 2;
                case '|':
                    return 1;
                default:
                    return 0;
            }
        }
    }

    private static final class WinterReader extends Reader {
        private static final String KINDS = "gmh";
        private static final int MOST_STEPS = 16;
        private static final int STEP = 0;
        private static final int DIGIT = 1;
        private static final int BEHIND = 2;

        private final int[] steps = new int[MOST_STEPS];
        private int length;
        private int kind;
        private int awaits;

        void start() {
            length = 0;
            awaits = STEP;
        }

        /** Each step as 10 times its kind, and its digit. */
        int[] stepsRead() {
            return Arrays.copyOf(steps, length);
        }

        boolean takes(int sign, int next, boolean joined) {
            if (awaits == STEP) {
                return takesKind(sign);
            }
            if (awaits == DIGIT) {
                return isDigit(sign) && adds(sign - '0');
            }
            awaits = STEP;
            return sign == ';' && length < MOST_STEPS;
        }

        private boolean takesKind(int sign) {
            kind = KINDS.indexOf((char) sign);
            if (kind == MONTH_STEP) {
                return adds(0);
            }
            awaits = DIGIT;
            return kind >= 0;
        }

        private boolean adds(int digit) {
            if (length >= MOST_STEPS) {
                return false;
            }
            steps[length] = 10 * kind + digit;
            length++;
            awaits = BEHIND;
            return true;
        }

        boolean closes() {
            return awaits == BEHIND;
        }
    }

    /** What of a house never changes; no guests: no house was told. */
    private static final class House {
        final int[] quality = new int[MOST_OF_A_KIND];
        final int[] likes = new int[MOST_OF_A_KIND];
        int drinks;
        int guests;
        int wages;
        int more;

        void settle(HouseReader told) {
            drinks = told.drinksTold;
            guests = told.guestsTold;
            wages = told.wagesTold();
            more = told.moreTold();
            for (int drink = 0; drink < drinks; drink++) {
                quality[drink] = told.qualityTold(drink);
            }
            for (int guest = 0; guest < guests; guest++) {
                likes[guest] = told.likeTold(guest);
            }
        }

        boolean isTold() {
            return guests > 0;
        }

        boolean hasDrink(int drink) {
            return drink >= 0 && drink < drinks;
        }

        boolean hasGuest(int guest) {
            return guest >= 0 && guest < guests;
        }

        int joyBy(int like, int got) {
            return like == got ? quality[got] + more : quality[got];
        }

        int mostLiked() {
            int most = -1;
            int chosen = NONE;
            for (int drink = 0; drink < drinks; drink++) {
                int many = 0;
                for (int guest = 0; guest < guests; guest++) {
                    if (likes[guest] == drink) {
                        many++;
                    }
                }
                if (many > most) {
                    most = many;
                    chosen = drink;
                }
            }
            return chosen;
        }
    }

    /** The laws as words of the LawReader, and the one that holds. */
    private static final class Laws {
        static final String LETTERS = "qhlmnp";
        private static final int BOUND = 1000000;
        private static final int MOST_STACKED = 64;

        private final int[][] codes = new int[MOST_TEXTS][0];
        private final int[] letters = new int[LETTERS.length()];
        private final int[] stack = new int[MOST_STACKED];
        int told;
        int holding = NONE;

        int add(LawReader reader) {
            if (told >= MOST_TEXTS) {
                return NONE;
            }
            codes[told] = reader.codeRead();
            told++;
            return told - 1;
        }

        void hear(int q, int h, int l, int m, int n, int p) {
            letters[0] = q;
            letters[1] = h;
            letters[2] = l;
            letters[3] = m;
            letters[4] = n;
            letters[5] = p;
        }

        int worth() {
            if (holding < 0 || holding >= told) {
                return 0;
            }
            int[] code = codes[holding];
            int top = 0;
            boolean passedOver = false;
            for (int i = 0; i < code.length; i++) {
                int word = code[i];
                if (passedOver) {
                    passedOver = word != -';';
                } else if (word >= -letters.length) {
                    if (top < MOST_STACKED) {
                        stack[top] = word >= 0 ? word : letters[-1 - word];
                        top++;
                    }
                } else if (word == -';' || top < 1) {
                    return top < 1 ? 0 : stack[top - 1];
                } else if (word == -'!') {
                    stack[top - 1] = 1 - stack[top - 1];
                } else if (word == -'?') {
                    top--;
                    passedOver = stack[top] == 0;
                } else if (top > 1) {
                    top--;
                    stack[top - 1] = joined(-word, stack[top - 1], stack[top]);
                }
            }
            return 0;
        }

        private static int joined(int sign, int a, int b) {
            long joint;
            switch (sign) {
                case '+':
                    joint = (long) a + b;
                    break;
                case '-':
                    joint = (long) a - b;
                    break;
                case '*':
                    joint = (long) a * b;
                    break;
                case '/':
                    joint = b == 0 ? 0 : a / b;
                    break;
                case '=':
                    joint = a == b ? 1 : 0;
                    break;
                case '<':
                    joint = a < b ? 1 : 0;
                    break;
                case '>':
                    joint = a > b ? 1 : 0;
                    break;
                case '&':
                    joint = a & b;
                    break;
                default:
                    joint = a | b;
                    break;
            }
            if (joint > BOUND) {
                return BOUND;
            }
            return joint < -BOUND ? -BOUND : (int) joint;
        }
    }

    /** What of a house changes, in one row of cells, so that it can be kept, copied and put back whole. */
    private static final class Table {
        static final int CELLS = 4 + 4 * MOST_OF_A_KIND;
        private static final int BOTTLE = 0;
        private static final int MONTH = 1;
        private static final int PUT = 2;
        private static final int VISITS = 3;
        private static final int MONEY = 4;
        private static final int MOOD = MONEY + MOST_OF_A_KIND;
        private static final int JOY = MOOD + MOST_OF_A_KIND;
        private static final int PRICE = JOY + MOST_OF_A_KIND;
        private static final int GLAD_FROM = 6;
        private static final int SOUR_BELOW = 4;
        private static final int MOST_MOOD = 9;
        private static final int MOST_WISH = 9;

        final int[] cells = new int[CELLS];
        private final House house;
        private final Laws laws;

        Table(House house, Laws laws) {
            this.house = house;
            this.laws = laws;
        }

        void settle(HouseReader told) {
            Arrays.fill(cells, 0);
            cells[BOTTLE] = told.bottleTold();
            for (int drink = 0; drink < house.drinks; drink++) {
                cells[PRICE + drink] = told.priceTold(drink);
            }
            for (int guest = 0; guest < house.guests; guest++) {
                cells[MONEY + guest] = told.moneyTold(guest);
                cells[MOOD + guest] = told.moodTold(guest);
            }
        }

        void copy(Table other) {
            System.arraycopy(other.cells, 0, cells, 0, CELLS);
        }

        int bottle() {
            return cells[BOTTLE];
        }

        int monthNow() {
            return cells[MONTH];
        }

        int hostPut() {
            return cells[PUT];
        }

        int visits() {
            return cells[VISITS];
        }

        int moneyOf(int guest) {
            return cells[MONEY + guest];
        }

        int moodOf(int guest) {
            return cells[MOOD + guest];
        }

        int joyOf(int guest) {
            return cells[JOY + guest];
        }

        int priceOf(int drink) {
            return cells[PRICE + drink];
        }

        int joyOfAll() {
            int sum = 0;
            for (int guest = 0; guest < house.guests; guest++) {
                sum += cells[JOY + guest];
            }
            return sum;
        }

        void give(int guest, int money) {
            cells[MONEY + guest] = Math.min(MOST_MONEY, cells[MONEY + guest] + money);
        }

        void setPrice(int drink, int v) {
            cells[PRICE + drink] = v;
        }

        // ---- steps

        boolean canBe(int kind, int digit) {
            if (kind == GUEST_STEP) {
                return house.hasGuest(digit);
            }
            if (kind == MONTH_STEP) {
                return house.isTold() && cells[MONTH] < MOST_MONTHS;
            }
            return house.hasDrink(digit) && digit != cells[BOTTLE] && cells[PUT] == 0;
        }

        void carry(int kind, int digit) {
            if (kind == GUEST_STEP) {
                receive(digit);
            } else if (kind == MONTH_STEP) {
                passMonth();
            } else {
                cells[BOTTLE] = digit;
                cells[PUT] = 1;
            }
        }

        /** Carries the steps up to the first that can't be: how many. */
        int goThrough(int[] steps) {
            for (int i = 0; i < steps.length; i++) {
                int kind = steps[i] / 10;
                int digit = steps[i] % 10;
                if (!canBe(kind, digit)) {
                    return i;
                }
                carry(kind, digit);
            }
            return steps.length;
        }

        private void passMonth() {
            cells[MONTH]++;
            cells[PUT] = 0;
            for (int guest = 0; guest < house.guests; guest++) {
                give(guest, house.wages);
            }
        }

        // ---- a visit

        /** The visit of a guest who is there: what it brought (NONE: handed on). */
        int receive(int guest) {
            int like = house.likes[guest];
            int mood = cells[MOOD + guest];
            int joy = house.joyBy(like, cells[BOTTLE]);
            int brought = brings(like, mood, cells[MONEY + guest], cells[VISITS], cells[BOTTLE]);
            cells[MOOD + guest] = moodBehind(mood, joy);
            cells[JOY + guest] += joy;
            cells[VISITS]++;
            if (brought != NONE) {
                cells[MONEY + guest] -= cells[PRICE + brought];
                cells[BOTTLE] = brought;
            }
            return brought;
        }

        /** Takes the latest visit back, which was this guest's, to the bottle, money and mood ahead of it. */
        void unreceive(int guest, int bottle, int money, int mood) {
            cells[BOTTLE] = bottle;
            cells[MONEY + guest] = money;
            cells[MOOD + guest] = mood;
            cells[JOY + guest] -= gladness(guest);
            cells[VISITS]--;
        }

        int gladness(int guest) {
            return house.joyBy(house.likes[guest], cells[BOTTLE]);
        }

        int wouldBring(int guest, int got) {
            return brings(house.likes[guest], cells[MOOD + guest], cells[MONEY + guest], cells[VISITS], got);
        }

        /** What one with these likes, mood ahead of drinking and money brings, visits ahead (NONE: handed on). */
        int brings(int like, int mood, int money, int ahead, int got) {
            int quality = house.quality[got];
            int then = moodBehind(mood, house.joyBy(like, got));
            if (laws.holding == NONE) {
                return nearest((quality + then) / 2, money);
            }
            laws.hear(quality, then, like == got ? 1 : 0, money, ahead, cells[PRICE + got]);
            return nearest(Math.max(0, Math.min(MOST_WISH, laws.worth())), money);
        }

        private static int moodBehind(int mood, int joy) {
            if (joy >= GLAD_FROM) {
                return Math.min(MOST_MOOD, mood + 1);
            }
            return joy < SOUR_BELOW ? Math.max(0, mood - 1) : mood;
        }

        private int nearest(int wish, int money) {
            int chosen = NONE;
            int least = 0;
            for (int drink = 0; drink < house.drinks; drink++) {
                int price = cells[PRICE + drink];
                int off = Math.abs(house.quality[drink] - wish);
                boolean nearer = chosen == NONE || off < least || off == least && price < cells[PRICE + chosen];
                if (price <= money && nearer) {
                    chosen = drink;
                    least = off;
                }
            }
            return chosen;
        }

        // ---- looks

        int sourest() {
            int chosen = 0;
            for (int guest = 1; guest < house.guests; guest++) {
                if (cells[MOOD + guest] < cells[MOOD + chosen]) {
                    chosen = guest;
                }
            }
            return chosen;
        }

        int richest() {
            return guestWithMost(MONEY);
        }

        int merriest() {
            return guestWithMost(JOY);
        }

        private int guestWithMost(int first) {
            int chosen = 0;
            for (int guest = 1; guest < house.guests; guest++) {
                if (cells[first + guest] > cells[first + chosen]) {
                    chosen = guest;
                }
            }
            return chosen;
        }

        int leastPrice() {
            int least = MOST_PRICE;
            for (int drink = 0; drink < house.drinks; drink++) {
                least = Math.min(least, cells[PRICE + drink]);
            }
            return least;
        }

        int payable(int guest) {
            int bits = 0;
            for (int drink = 0; drink < house.drinks; drink++) {
                if (cells[PRICE + drink] <= cells[MONEY + guest]) {
                    bits |= 1 << drink;
                }
            }
            return bits;
        }

        int nobles() {
            int bits = 0;
            for (int guest = 0; guest < house.guests; guest++) {
                int brought = wouldBring(guest, cells[BOTTLE]);
                if (brought != NONE && house.quality[brought] > house.quality[cells[BOTTLE]]) {
                    bits |= 1 << guest;
                }
            }
            return bits;
        }

        /** What a guest has in a game who gets one drink and brings another. */
        int share(int guest, int gets, int brings) {
            return house.joyBy(house.likes[guest], gets) - cells[PRICE + brings] / 3;
        }

        /** Whether a guest has no more by another drink than the one that it brings. */
        boolean stays(int guest, int gets, int brings) {
            for (int drink = 0; drink < house.drinks; drink++) {
                if (share(guest, gets, drink) > share(guest, gets, brings)) {
                    return false;
                }
            }
            return true;
        }
    }

    /** The guest book, the tables ahead of the latest acts, and the image. */
    private static final class Memory {
        private static final int MOST_ACTS = 40;
        private static final int MOST_LINES = 60;
        // As many lines more as acts can be undone: a line that fell out of the book comes back so.
        private static final int LINES = MOST_LINES + MOST_ACTS;
        private static final int WIDTH = 4;

        private final int[] past = new int[MOST_ACTS * Table.CELLS];
        private final int[] lines = new int[LINES * WIDTH];
        private final int[] imageCells = new int[Table.CELLS];
        private final int[] imageLines = new int[LINES * WIDTH];
        private boolean imaged;
        private int next;
        int kept;

        void forgetAll() {
            kept = 0;
            imaged = false;
        }

        void keep(int[] cells) {
            System.arraycopy(cells, 0, past, next * Table.CELLS, Table.CELLS);
            next = (next + 1) % MOST_ACTS;
            kept = Math.min(MOST_ACTS, kept + 1);
        }

        boolean takeBack(int[] cells) {
            if (kept < 1) {
                return false;
            }
            kept--;
            next = (next + MOST_ACTS - 1) % MOST_ACTS;
            System.arraycopy(past, next * Table.CELLS, cells, 0, Table.CELLS);
            return true;
        }

        void takeImage(int[] cells) {
            System.arraycopy(cells, 0, imageCells, 0, Table.CELLS);
            System.arraycopy(lines, 0, imageLines, 0, lines.length);
            imaged = true;
        }

        boolean goBack(int[] cells) {
            if (!imaged) {
                return false;
            }
            System.arraycopy(imageCells, 0, cells, 0, Table.CELLS);
            System.arraycopy(imageLines, 0, lines, 0, lines.length);
            kept = 0;
            return true;
        }

        // ---- the book: a visit's line stands by its number, the first being 1

        static int bookLength(int visits) {
            return Math.min(MOST_LINES, visits);
        }

        void write(int number, int guest, int drank, int brought, int joy) {
            int first = placeOf(number);
            lines[first] = guest;
            lines[first + 1] = drank;
            lines[first + 2] = brought;
            lines[first + 3] = joy;
        }

        int line(int number, int what) {
            return lines[placeOf(number) + what];
        }

        private static int placeOf(int number) {
            return Math.floorMod(number, LINES) * WIDTH;
        }

        int timesBrought(int visits, int brought) {
            int many = 0;
            for (int i = 0; i < bookLength(visits); i++) {
                if (line(visits - i, 2) == brought) {
                    many++;
                }
            }
            return many;
        }

        int middle(int visits, House house) {
            int length = bookLength(visits);
            int sum = 0;
            for (int i = 0; i < length; i++) {
                sum += house.quality[line(visits - i, 1)];
            }
            return length < 1 ? 0 : sum / length;
        }
    }

    /** Goes through rows of visits (or of drinks dealt out), the least first, apart from the table. */
    private static final class Rows {
        private final House house;
        private final Table now;
        private final Table apart;
        private boolean unlike;
        private int aimedAt = NONE;
        private boolean otherThanAim;
        private int aimedIndex = NONE;
        int topRow;
        int topJoy;
        int hits;
        int hitRow;
        int hitParts;

        Rows(House house, Table now, Table apart) {
            this.house = house;
            this.now = now;
            this.apart = apart;
        }

        /** A hit is a row behind which the bottle is this drink (or another one); of the hits one row is kept. */
        void aim(int drink, boolean other, int index) {
            aimedAt = drink;
            otherThanAim = other;
            aimedIndex = index;
        }

        void search(int length, boolean ofUnlike) {
            forget();
            unlike = ofUnlike;
            apart.copy(now);
            goVisits(length, 0, 0, WHOLE, 0);
        }

        void searchDeals() {
            forget();
            goDeals(0, 0, 0, 0);
        }

        private void forget() {
            topRow = 0;
            topJoy = -1;
            hits = 0;
            hitRow = 0;
            hitParts = 0;
        }

        private void goVisits(int left, int row, int joy, int parts, int used) {
            if (left < 1 || house.guests < 1) {
                weigh(row, joy);
                strike(row, parts);
                return;
            }
            int bottle = apart.bottle();
            for (int guest = 0; guest < house.guests; guest++) {
                if (!unlike || (used >> guest & 1) == 0) {
                    int money = apart.moneyOf(guest);
                    int mood = apart.moodOf(guest);
                    int more = apart.gladness(guest);
                    apart.receive(guest);
                    goVisits(left - 1, 10 * row + guest, joy + more, parts / house.guests, used | 1 << guest);
                    apart.unreceive(guest, bottle, money, mood);
                }
            }
        }

        private void goDeals(int guest, int row, int joy, int used) {
            if (guest >= house.guests) {
                weigh(row, joy);
                return;
            }
            for (int drink = 0; drink < house.drinks; drink++) {
                if ((used >> drink & 1) == 0) {
                    int more = house.joyBy(house.likes[guest], drink);
                    goDeals(guest + 1, 10 * row + drink, joy + more, used | 1 << drink);
                }
            }
        }

        private void weigh(int row, int joy) {
            if (joy > topJoy) {
                topJoy = joy;
                topRow = row;
            }
        }

        private void strike(int row, int parts) {
            boolean isAim = apart.bottle() == aimedAt;
            if (isAim == otherThanAim) {
                return;
            }
            if (hits == aimedIndex) {
                hitRow = row;
            }
            hits++;
            hitParts += parts;
        }
    }

    /** What was seen, and the likes and moods (10 times the drink, and the mood) that fit it. */
    private static final class Sightings {
        static final int MOST = 10;
        private static final int WIDTH = 4;
        private static final int MOODS = 10;

        final int[] fitting = new int[MOODS * MOST_OF_A_KIND];
        private final int[] rows = new int[MOST * WIDTH];
        private final int[] tally = new int[MOST_OF_A_KIND + 1];
        private final House house;
        private final Table table;
        int length;

        Sightings(House house, Table table) {
            this.house = house;
            this.table = table;
        }

        void add(int guest, int got, int money, int brought) {
            if (length < MOST) {
                int first = length * WIDTH;
                rows[first] = guest;
                rows[first + 1] = got;
                rows[first + 2] = money;
                rows[first + 3] = brought;
                length++;
            }
        }

        /** Puts all that fits a guest into the row: how many. */
        int gather(int guest) {
            int many = 0;
            for (int like = 0; like < house.drinks; like++) {
                for (int mood = 0; mood < MOODS; mood++) {
                    if (isSo(guest, like, mood)) {
                        fitting[many] = MOODS * like + mood;
                        many++;
                    }
                }
            }
            return many;
        }

        private boolean isSo(int guest, int like, int mood) {
            for (int i = 0; i < length; i++) {
                int first = i * WIDTH;
                if (rows[first] == guest
                        && table.brings(like, mood, rows[first + 2], 0, rows[first + 1]) != rows[first + 3]) {
                    return false;
                }
            }
            return true;
        }

        /** The drink by which the largest part of those that fit, which would all bring the same, is smallest. */
        int telling(int many, int money) {
            int chosen = NONE;
            int least = 0;
            for (int drink = 0; drink < house.drinks && many > 0; drink++) {
                int most = largestPart(many, money, drink);
                if (chosen == NONE || most < least) {
                    chosen = drink;
                    least = most;
                }
            }
            return chosen;
        }

        private int largestPart(int many, int money, int drink) {
            Arrays.fill(tally, 0);
            int most = 0;
            for (int i = 0; i < many && i < fitting.length; i++) {
                int brought = table.brings(fitting[i] / MOODS, fitting[i] % MOODS, money, 0, drink);
                tally[brought + 1]++;
                most = Math.max(most, tally[brought + 1]);
            }
            return most;
        }
    }
}
