/** What the tests by promise share: answers that are due, and texts told to a house. */
final class Due {
    private static int wrong;
    private static int asked;

    private Due() {
    }

    static void due(int promise, String call, long got, long want) {
        asked++;
        if (got != want) {
            wrong++;
            System.out.println("promise " + promise + ": " + call + " answered " + got + ", due is " + want);
        }
    }

    static void due(int promise, String call, boolean got, boolean want) {
        due(promise, call, got ? 1 : 0, want ? 1 : 0);
    }

    static void close() {
        System.out.println(asked + " answers, " + wrong + " of them not as due");
        if (wrong != 0) {
            System.exit(1);
        }
    }

    /** Puts a text on the tape in place of what is there. */
    static BottleBefore tape(BottleBefore x, String text) {
        x.end(0);
        for (int i = 0; i < text.length(); i += 20) {
            int[] words = new int[5];
            for (int j = i; j < text.length() && j < i + 20; j++) {
                words[(j - i) / 4] |= text.charAt(j) << (24 - 8 * ((j - i) % 4));
            }
            x.feed(words[0], words[1], words[2], words[3], words[4]);
        }
        return x;
    }

    static int tell(BottleBefore x, int sort, String text) {
        return tape(x, text).text(sort);
    }

    static BottleBefore house(String text) {
        BottleBefore x = new BottleBefore();
        if (tell(x, 0, text) == BottleBefore.NONE) {
            System.out.println("no house: " + text);
            wrong++;
        }
        return x;
    }

    /** Tells a law, which holds from now on. */
    static BottleBefore holding(BottleBefore x, String text) {
        int number = tell(x, 1, text);
        if (number == BottleBefore.NONE || !x.law(number)) {
            System.out.println("no law: " + text);
            wrong++;
        }
        return x;
    }
}
