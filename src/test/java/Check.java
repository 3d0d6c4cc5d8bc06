import java.nio.charset.StandardCharsets;
import java.util.List;
import java.util.function.IntUnaryOperator;
import java.util.function.Supplier;
import java.util.function.ToIntFunction;

/** What the tests share: counting wrong answers, and feeding a text to a loft. */
final class Check {
    private static int wrong = 0;
    private static int asked = 0;
    private static String topic = "";

    private Check() {
    }

    /** What the answers from here on are about; it stands ahead of each wrong one. */
    static void topic(String words) {
        topic = words + ": ";
    }

    static void due(String what, long got, long want) {
        asked++;
        if (got != want) {
            wrong++;
            if (wrong <= 40) {
                System.out.println(topic + what + " answered " + got + ", due is " + want);
            }
        }
    }

    static void due(String what, boolean got, boolean want) {
        due(what, got ? 1 : 0, want ? 1 : 0);
    }

    static void wrong(String what) {
        due(what, 1, 0);
    }

    /** Looks at each argument by itself: a call with it must answer NONE. */
    static void none(String call, IntUnaryOperator made, int... arguments) {
        for (int argument : arguments) {
            due(call + " of " + argument, made.applyAsInt(argument), CordLoft.NONE);
        }
    }

    /** A call is refused, and the object is then in no way another than one on which it was never made. */
    static void refused(String call, Supplier<CordLoft> object, ToIntFunction<CordLoft> made) {
        CordLoft x = object.get();
        due(call, made.applyAsInt(x), CordLoft.NONE);
        same("all behind " + call, Trace.of(x), Trace.of(object.get()));
    }

    static void same(String what, List<String> got, List<String> want) {
        for (int i = 0; i < Math.max(got.size(), want.size()); i++) {
            String one = i < got.size() ? got.get(i) : "nothing";
            String other = i < want.size() ? want.get(i) : "nothing";
            if (!one.equals(other)) {
                wrong(what + " has " + one + ", due is " + other);
                return;
            }
        }
        due(what, 0, 0);
    }

    /** A new object that has read a text. */
    static CordLoft with(String text) {
        CordLoft x = new CordLoft();
        due("loft() of a sound text: " + text, read(x, text) >= 0, true);
        return x;
    }

    /** What loft() answers to a text. */
    static int read(CordLoft x, String text) {
        feed(x, text);
        return x.loft();
    }

    static void feed(CordLoft x, String text) {
        byte[] bytes = text.getBytes(StandardCharsets.ISO_8859_1);
        int from = x.about(10);
        for (int i = 0; i < bytes.length; i += 20) {
            x.feed(word(bytes, i), word(bytes, i + 4), word(bytes, i + 8), word(bytes, i + 12), word(bytes, i + 16));
        }
        x.end(from + bytes.length);
    }

    private static int word(byte[] bytes, int from) {
        int word = 0;
        for (int i = from; i < from + 4; i++) {
            word = word << 8 | (i < bytes.length ? bytes[i] & 255 : 0);
        }
        return word;
    }

    /** A text without a fault, of so many lamps. */
    static void sound(String text, int lamps) {
        CordLoft x = new CordLoft();
        due("loft() of " + text, read(x, text), lamps);
        due("fault(0) of " + text, x.fault(0), 0);
        due("fault(1) of " + text, x.fault(1), CordLoft.NONE);
    }

    /** A text whose first fault is of a kind, at a place. */
    static void fault(String text, int kind, int place) {
        CordLoft x = new CordLoft();
        due("loft() of " + text, read(x, text), CordLoft.NONE);
        due("fault(0) of " + text, x.fault(0), kind);
        due("fault(1) of " + text, x.fault(1), place);
    }

    /** The same, with ^ ahead of the place in the text (^ itself is not fed). */
    static void fault(int kind, String marked) {
        int place = marked.indexOf('^');
        fault(marked.substring(0, place) + marked.substring(place + 1), kind, place);
    }

    static void end(String name) {
        System.out.println(name + ": " + asked + " answers looked at, " + wrong + " not as due");
        if (wrong != 0) {
            System.exit(1);
        }
    }
}
