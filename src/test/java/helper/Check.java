/** Counts the answers that are not as due, and feeds texts. */
final class Check {
    private final String name;
    private int asked = 0;
    private int wrong = 0;

    Check(String name) {
        this.name = name;
    }

    void due(String call, long got, long due) {
        asked++;
        if (got != due) {
            wrong++;
            if (wrong <= 50) {
                System.out.println(name + ": " + call + " answered " + got + ", due is " + due);
            }
        }
    }

    void due(String call, boolean got, boolean due) {
        due(call, got ? 1 : 0, due ? 1 : 0);
    }

    /** Tells how it went and ends with 1 if an answer was not as due, or if nothing was asked. */
    void finish() {
        System.out.println(name + ": " + asked + " answers, " + wrong + " not as due");
        if (wrong != 0 || asked == 0) {
            System.exit(1);
        }
    }

    /** Twenty bytes of a text as five numbers, blanks behind its end. */
    static int[] numbers(String text, int from) {
        int[] numbers = new int[5];
        for (int i = 0; i < 20; i++) {
            int sign = from + i < text.length() ? text.charAt(from + i) : ' ';
            numbers[i / 4] = numbers[i / 4] << 8 | sign;
        }
        return numbers;
    }

    /** Feeds a text that is at most 500 bytes long with its blanks, and cuts what was fed behind it. */
    static void feed(OnlyLent lent, String text) {
        int ahead = lent.count(10);
        for (int from = 0; from < text.length(); from += 20) {
            int[] n = numbers(text, from);
            lent.feed(n[0], n[1], n[2], n[3], n[4]);
        }
        lent.end(ahead + text.length());
    }

    /** A new object with the land of a text. */
    static OnlyLent lent(String text) {
        OnlyLent lent = new OnlyLent();
        feed(lent, text);
        int people = lent.land();
        if (people == OnlyLent.NONE) {
            throw new IllegalStateException("a fault at " + lent.fault() + " in: " + text);
        }
        return lent;
    }
}
