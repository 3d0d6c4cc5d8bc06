import java.nio.charset.StandardCharsets;

/** What the tests share: counting wrong answers, and feeding a text to a loft. */
final class Check {
    private static int wrong = 0;
    private static int asked = 0;

    private Check() {
    }

    static void due(String what, long got, long want) {
        asked++;
        if (got != want) {
            wrong++;
            if (wrong <= 40) {
                System.out.println(what + " answered " + got + ", due is " + want);
            }
        }
    }

    static void due(String what, boolean got, boolean want) {
        due(what, got ? 1 : 0, want ? 1 : 0);
    }

    static void wrong(String what) {
        due(what, 1, 0);
    }

    /** A new object that has read a text. */
    static CordLoft with(String text) {
        CordLoft x = new CordLoft();
        due("loft() of a sound text: " + text, read(x, text) >= 0, true);
        return x;
    }

    /** What loft() answers to a text. */
    static int read(CordLoft x, String text) {
        feed(x, text);
        return x.loft();
    }

    static void feed(CordLoft x, String text) {
        byte[] bytes = text.getBytes(StandardCharsets.ISO_8859_1);
        for (int i = 0; i < bytes.length; i += 20) {
            x.feed(word(bytes, i), word(bytes, i + 4), word(bytes, i + 8), word(bytes, i + 12), word(bytes, i + 16));
        }
        x.end(bytes.length);
    }

    private static int word(byte[] bytes, int from) {
        int word = 0;
        for (int i = from; i < from + 4; i++) {
            word = word << 8 | (i < bytes.length ? bytes[i] & 255 : 0);
        }
        return word;
    }

    static void end(String name) {
        System.out.println(name + ": " + asked + " answers looked at, " + wrong + " not as due");
        if (wrong != 0) {
            System.exit(1);
        }
    }
}
