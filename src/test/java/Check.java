import java.nio.charset.StandardCharsets;

/** Counts the answers that are not as due, and writes texts into an OffFirst. */
final class Check {
    private final String name;
    private String sentence = "";
    private int asked;
    private int wrong;

    Check(String name) {
        this.name = name;
    }

    /** Names the document's sentence that is tested from here on. */
    void sentence(String words) {
        sentence = " [" + words + "]";
    }

    void due(String call, long got, long want) {
        asked++;
        if (got != want) {
            wrong++;
            System.out.println(name + sentence + ": " + call + " answered " + got + ", due is " + want);
        }
    }

    void due(String call, String got, String want) {
        asked++;
        if (!got.equals(want)) {
            wrong++;
            System.out.println(name + sentence + ": " + call + " answered " + got + ", due is " + want);
        }
    }

    void holds(String what, boolean isSo) {
        asked++;
        if (!isSo) {
            wrong++;
            System.out.println(name + sentence + ": it is not so that " + what);
        }
    }

    boolean isWrong() {
        return wrong > 0;
    }

    /** Tells the outcome; ends with 1 if an answer was wrong. */
    void end() {
        System.out.println(name + ": " + asked + " asked, " + wrong + " wrong");
        if (wrong > 0 || asked == 0) {
            System.exit(1);
        }
    }

    /** A new object that has LAID a text; the text stays THE TEXT. */
    OffFirst laid(String text) {
        OffFirst x = new OffFirst();
        write(x, text);
        due("fault() of " + text, x.fault(), OffFirst.NONE);
        holds("lay() of " + text + " lays", x.lay() > 0);
        return x;
    }

    /** A new object with a text that is not LAID. */
    static OffFirst written(String text) {
        OffFirst x = new OffFirst();
        write(x, text);
        return x;
    }

    /** Lets more HOURS go by than one call can. */
    static void goBy(OffFirst x, int hours) {
        for (int left = hours; left > 0; left -= 999) {
            x.hours(Math.min(left, 999));
        }
    }

    /** Writes a text, up to eight bytes at a time: how long THE TEXT is. */
    static int write(OffFirst x, String text) {
        byte[] bytes = text.getBytes(StandardCharsets.ISO_8859_1);
        int length = x.count(8);
        for (int from = 0; from < bytes.length; from += 8) {
            int n = Math.min(8, bytes.length - from);
            long v = 0;
            for (int i = 0; i < n; i++) {
                v = v << 8 | bytes[from + i] & 255;
            }
            length = x.write(n, v);
        }
        return length;
    }
}
