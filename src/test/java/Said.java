import java.io.IOException;
import java.nio.charset.StandardCharsets;
import java.nio.file.Files;
import java.nio.file.Path;
import java.util.ArrayList;
import java.util.List;
import java.util.NoSuchElementException;
import java.util.Set;
import java.util.TreeSet;
import java.util.function.Supplier;
import java.util.regex.Matcher;
import java.util.regex.Pattern;

/** Sentences of the document that name an edge, each with the answers that are due by it. */
final class Said {
    /** What a call answers that throws NoSuchElementException. */
    static final long THROWS = Long.MIN_VALUE;
    /** The Terms of the document, where a sentence is of no promise. */
    static final int TERMS = 0;

    private static final int PROMISES = 43;
    private static final Path DOC = Path.of("..", "shared", "DOC.md");
    private static final String[] PARTS = parts();
    private static final Set<String> QUOTED = new TreeSet<>();

    private static String sentence = "";
    private static int asked;
    private static int wrong;

    interface Call {
        long on(BottleBefore x);
    }

    private Said() {
    }

    /** From here on answers are held against these words; they must stand in the document as they are quoted. */
    static void said(int promise, String words) {
        sentence = (promise == TERMS ? "Terms" : "promise " + promise) + ", \"" + words + "\"";
        QUOTED.add(promise + " " + words);
        if (PARTS.length > 0 && !PARTS[promise].contains(words)) {
            wrong++;
            System.out.println(sentence + ": the document does not say so");
        }
    }

    static void is(String call, long got, long want) {
        asked++;
        if (got != want) {
            wrong++;
            System.out.println(sentence + ": " + call + " answered " + got + ", due is " + want);
        }
    }

    static void is(String call, boolean got, boolean want) {
        is(call, got ? 1 : 0, want ? 1 : 0);
    }

    static void isAll(String call, List<Long> got, List<Long> want) {
        asked++;
        if (!got.equals(want)) {
            wrong++;
            System.out.println(sentence + ": " + call + " answered " + got + ", due is " + want);
        }
    }

    static void close() {
        System.out.println(asked + " answers by " + QUOTED.size() + " sentences, " + wrong + " not as due");
        if (wrong != 0) {
            System.exit(1);
        }
    }

    // ---- "What is refused answers as told and changes nothing."

    /** The call answers as told, and behind it the house is in all that can be asked as one without the call. */
    static void refused(String call, Supplier<BottleBefore> made, Call refusal, long want) {
        is(call, answer(made.get(), refusal), want);
        Looks[] looks = {Said::looks, Said::book, Said::texts, Said::makings, Said::fits, Said::past, Said::image};
        for (Looks look : looks) {
            BottleBefore with = made.get();
            answer(with, refusal);
            isAll("what is asked behind " + call, look.at(with), look.at(made.get()));
        }
    }

    static long answer(BottleBefore x, Call call) {
        try {
            return call.on(x);
        } catch (NoSuchElementException e) {
            return THROWS;
        }
    }

    private interface Looks {
        List<Long> at(BottleBefore x);
    }

    private static void add(List<Long> to, long answer) {
        to.add(answer);
    }

    private static List<Long> looks(BottleBefore x) {
        List<Long> all = new ArrayList<>();
        for (int i = 0; i < 14; i++) add(all, x.count(i));
        for (int i = 0; i < 3; i++) add(all, x.rule(i));
        for (int i = 0; i < 3; i++) add(all, x.fault(i));
        for (int i = 0; i < 12; i++) add(all, x.drink(i / 2, i % 2));
        for (int i = 0; i < x.count(0) * 4; i++) add(all, x.guest(i / 4, i % 4));
        for (int i = 0; i < 8; i++) add(all, x.all(i));
        for (int i = 0; i < 6; i++) add(all, x.brought(i));
        return all;
    }

    private static List<Long> book(BottleBefore x) {
        List<Long> all = new ArrayList<>();
        int length = x.count(12);
        for (int i = 0; i <= length * 4; i++) add(all, x.book(i / 4, i % 4));
        return all;
    }

    private static List<Long> texts(BottleBefore x) {
        List<Long> all = new ArrayList<>();
        for (int winter = 0; winter < 4; winter++) {
            for (int i = 0; i < 34; i++) add(all, x.step(winter, i / 2, i % 2));
        }
        // What is on the tape: each of its beginnings as a text of each sort.
        for (int n = Math.min(60, x.count(4)); n >= 0; n--) {
            add(all, x.end(n) ? 1 : 0);
            for (int sort = 0; sort < 3; sort++) add(all, x.fault(sort));
        }
        return all;
    }

    private static List<Long> makings(BottleBefore x) {
        List<Long> all = new ArrayList<>();
        for (int law = -1; law < 4; law++) {
            for (int i = 0; i < 36; i++) add(all, x.makes(i / 6, i % 6));
            add(all, x.law(law) ? 1 : 0);
        }
        add(all, x.years(60, 5L));
        for (int i = 0; i < 14; i++) add(all, x.count(i));
        return all;
    }

    private static List<Long> fits(BottleBefore x) {
        List<Long> all = new ArrayList<>();
        for (int guest = 0; guest < 6; guest++) {
            int many = x.fits(guest, -1);
            for (int i = -1; i < many; i++) add(all, x.fits(guest, i));
        }
        add(all, x.seen(0, 0, 0, 0));
        return all;
    }

    private static List<Long> past(BottleBefore x) {
        List<Long> all = new ArrayList<>();
        int acts = x.count(13);
        for (int i = 0; i <= acts; i++) {
            for (int what : new int[] {6, 7, 8, 11}) add(all, x.count(what));
            add(all, x.rule(0));
            add(all, x.book(0, 3));
            add(all, x.undo());
        }
        all.addAll(looks(x));
        return all;
    }

    private static List<Long> image(BottleBefore x) {
        List<Long> all = new ArrayList<>();
        add(all, x.back());
        all.addAll(looks(x));
        all.addAll(book(x));
        return all;
    }

    // ---- the document

    private static String joined(String text) {
        return text.replaceAll("\\s+", " ");
    }

    /** The Terms, and each promise; nothing, if the document is not at hand. */
    private static String[] parts() {
        if (!Files.isReadable(DOC)) {
            System.out.println("the document is not at hand: what is quoted is not looked up");
            return new String[0];
        }
        try {
            String doc = Files.readString(DOC, StandardCharsets.UTF_8);
            String[] parts = new String[PROMISES + 1];
            parts[0] = joined(doc.substring(0, doc.indexOf("## Promise 1:")));
            for (int i = 1; i <= PROMISES; i++) {
                int from = doc.indexOf("## Promise " + i + ":");
                int to = doc.indexOf("\n## ", from);
                parts[i] = joined(doc.substring(from, to));
            }
            return parts;
        } catch (IOException e) {
            throw new IllegalStateException(e);
        }
    }

    /** Each reason for which a promise refuses must have been quoted by a test. */
    static void allReasonsQuoted() {
        Pattern told = Pattern.compile("(?:NONE:|False:|HIDDEN:|HIDDEN for|NoSuchElementException:|-2:) ([^.]*)\\.");
        for (int i = 1; i <= PROMISES && PARTS.length > 0; i++) {
            Matcher m = told.matcher(PARTS[i].replaceAll("\\([^)]*\\)", ""));
            while (m.find()) {
                for (String reason : m.group(1).split(",")) {
                    is("a test of promise " + i + ", " + reason, QUOTED.contains(i + " " + reason.trim()), true);
                }
            }
        }
    }
}
