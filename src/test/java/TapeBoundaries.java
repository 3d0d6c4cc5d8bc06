import java.util.List;

/** Boundary cases of a new object, of the tape, of a loft() with its fault, and of what is told of all. */
final class TapeBoundaries {
    private static final int NONE = CordLoft.NONE;
    private static final int FAR = Integer.MAX_VALUE;
    private static final int LOW = Integer.MIN_VALUE;
    private static final int BLANKS = 0x20202020;

    private TapeBoundaries() {
    }

    static void test() {
        calls();
        newObject();
        feed();
        end();
        loft();
        fault();
        lamp();
        cord();
        about();
    }

    private static void calls() {
        Sentence.of(Sentence.FACE, "An object is used for at most 512 calls after it has been made;");
        CordLoft x = new CordLoft();
        for (int i = 1; i < 512; i++) {
            x.dusk();
        }
        // the 512th
        Check.due("nights behind 511 dusks", x.about(4), 511);
    }

    private static void newObject() {
        Sentence.of(1, "An empty LOFT.");
        CordLoft x = new CordLoft();
        for (int what = 0; what < 15; what++) {
            Check.due("about(" + what + ")", x.about(what), 0);
        }
        Check.due("picture()", x.picture(), 0);
        Check.due("fault(0)", x.fault(0), 0);
        Check.due("fault(1)", x.fault(1), NONE);
        Check.due("lies(0)", x.lies(0), NONE);
        Check.due("undo()", x.undo(), false);
        Check.due("redo()", x.redo(), false);
        Check.none("back", x::back, 0, 1, 2);
        Check.due("end(0)", x.end(0), 0);
        Check.due("end(1)", x.end(1), NONE);
        Check.due("untell(0)", x.untell(0), false);
        Check.same("a new object, and one that has read nothing", Trace.of(new CordLoft()), Trace.of(Check.with("")));
    }

    private static void feed() {
        Sentence.of(2, "Twenty bytes come behind those on the TAPE, of each number the highest first: how many there are;");
        CordLoft x = new CordLoft();
        // "lamp" " a l" "it;l" "amp " "b wa", "tts " "27;", then what is cut off
        Check.due("the first twenty", x.feed(0x6c616d70, 0x2061206c, 0x69743b6c, 0x616d7020, 0x62207761), 20);
        Check.due("behind those", x.feed(0x74747320, 0x32373b00, -1, LOW, FAR), 40);
        Check.due("end", x.end(27), 27);
        Check.due("two lamps", x.loft(), 2);
        Check.due("a burns", x.picture(), 1);
        Check.due("27, not 72", x.lamp(1, 1), 27);
        // a number below 0 is four bytes too, the highest first
        for (int number : new int[] {0x80202020, 0xff202020, 0x2020ff20, LOW, -1}) {
            x.feed(BLANKS, number, BLANKS, BLANKS, BLANKS);
            Check.due("no token", x.loft(), NONE);
            Check.due("its place", x.fault(1), number == 0x2020ff20 ? 6 : 4);
        }
        Sentence.of(2, "NONE, and nothing comes, if there would be more than 1,600.");
        Check.due("up to 1,600", filled(1580).feed(BLANKS, BLANKS, BLANKS, BLANKS, BLANKS), 1600);
        for (int size : new int[] {1581, 1582, 1599, 1600}) {
            Check.refused("feed at " + size, () -> filled(size), y -> y.feed(1, 2, 3, 4, 5));
            CordLoft y = filled(size);
            y.feed(1, 2, 3, 4, 5);
            Check.due("bytes then", y.about(10), size);
            Check.due("all are blank still", y.loft(), 0);
        }
        for (int i = 1; i <= 80; i++) {
            Check.due("feed " + i, x.feed(BLANKS, BLANKS, BLANKS, BLANKS, BLANKS), 20 * i);
        }
        Check.due("feed 81", x.feed(BLANKS, BLANKS, BLANKS, BLANKS, BLANKS), NONE);
    }

    /** A lived-in loft with so many blanks on its tape. */
    private static CordLoft filled(int size) {
        CordLoft x = Lofts.livedIn();
        x.end(0);
        Check.feed(x, " ".repeat(size));
        Check.due("on the tape", x.about(10), size);
        return x;
    }

    private static void end() {
        Sentence.of(3, "The TAPE has its first n bytes: n;");
        CordLoft x = new CordLoft();
        Check.feed(x, "lamp a;lamp b;");
        Check.due("as many as there are", x.end(14), 14);
        Check.due("one fewer", x.end(13), 13);
        Check.due("bytes", x.about(10), 13);
        Check.due("its first ones", x.end(7), 7);
        Check.due("loft()", x.loft(), 1);
        Check.feed(x, "lamp a;lamp b;");
        x.end(5);
        x.feed(0x713b2020, BLANKS, BLANKS, BLANKS, BLANKS);
        Check.due("what comes then stands behind these", x.loft(), 1);
        Check.feed(x, "lamp a;");
        Check.due("none of them", x.end(0), 0);
        Check.due("an empty loft", x.loft(), 0);
        Sentence.of(3, "NONE, doing nothing, if it has not so many, or n is below 0.");
        // there are 18 on it
        for (int n : new int[] {LOW, -2, -1, 19, 20, 1600, 1601, FAR}) {
            Check.refused("end(" + n + ")", Lofts::livedIn, y -> y.end(n));
        }
        Check.due("what was cut off does not come again", cutTo(5).end(6), NONE);
        Check.due("at the most", filled(1600).end(1600), 1600);
        Check.due("one more", filled(1600).end(1601), NONE);
    }

    private static CordLoft cutTo(int n) {
        CordLoft x = Lofts.livedIn();
        x.end(n);
        return x;
    }

    private static void loft() {
        Sentence.of(4, "The TAPE (empty then) is the LOFT");
        CordLoft x = new CordLoft();
        Check.feed(x, "lamp a lit;");
        x.loft();
        Check.due("bytes then", x.about(10), 0);
        Check.due("the loft", x.picture(), 1);
        Check.due("an empty tape is an empty loft", x.loft(), 0);
        Check.due("lamps then", x.about(0), 0);
        Sentence.of(4, "(all as told, nothing TIED, SPENT, night 0, no ACTS are kept, nothing is SEEN, nothing lies"
                + " there, BOXES are empty then; the TIME stays): how many LAMPS;");
        CordLoft again = Lofts.livedIn();
        String other = Lofts.FOUR + "dusk 1+1;draw 3;least 2;gusts 4;";
        again.end(0);
        Check.due("lamps", Check.read(again, other), 4);
        Check.due("the time stays", again.about(9), 5);
        CordLoft fresh = new CordLoft();
        fresh.later(5);
        Check.read(fresh, other);
        Check.same("as one that was never lived in", Trace.of(again), Trace.of(fresh));
        for (int lamps = 0; lamps <= 8; lamps++) {
            Check.due("how many lamps", Check.read(new CordLoft(), Lofts.EIGHT_LAMPS.substring(0, 7 * lamps)), lamps);
        }
        smallerLoft();
        Sentence.of(4, "NONE: a FAULT (all stays).");
        String eightThen = Lofts.EIGHT + "least 8;gusts 100;draw 999;dusk lit;";
        for (String text : List.of("$", "lamp", "lamp a;lamp a", "lamp z lit;least 9;", "lamp a;next a b", eightThen + "$")) {
            CordLoft y = Lofts.livedIn();
            y.end(0);
            Check.due("loft() of " + text, Check.read(y, text), NONE);
            Check.due("the tape is empty then, too", y.about(10), 0);
            Check.same("all behind loft() of " + text, Trace.ofLoft(y), Trace.ofLoft(Lofts.livedIn()));
        }
    }

    /** Nothing of a full loft, or of a faulty text, is left in a small one behind it. */
    private static void smallerLoft() {
        String full = Lofts.EIGHT.replaceAll("lamp ([a-h]);", "lamp $1 lit watts 9;") + "next a b;"
                + "least 3;gusts 50;draw 5;dusk near or 1;";
        String small = "lamp p;lamp q;cord c turns q;";
        String[][] texts = {{full, small}, {full, full, small}, {full, full + "$", small}, {full + "$", small}};
        for (String[] row : texts) {
            CordLoft x = new CordLoft();
            for (String text : row) {
                Check.read(x, text);
            }
            Check.due("lamps", x.about(0), 2);
            Check.same("as in a new object", Trace.of(x), Trace.of(Check.with(small)));
        }
        actsBehindLoft();
    }

    /** More acts behind loft() than there were ahead of it: they are undone down to what is told. */
    private static void actsBehindLoft() {
        CordLoft x = Lofts.eight();
        for (int cord = 0; cord < 3; cord++) {
            x.pull(cord);
        }
        Check.read(x, Lofts.EIGHT.replace("lamp h;", "lamp h lit;"));
        Check.due("undo", x.undo(), false);
        for (int cord = 0; cord < 5; cord++) {
            x.pull(cord);
        }
        for (int i = 0; i < 5; i++) {
            Check.due("undo", x.undo(), true);
        }
        Check.due("as told", x.picture(), 128);
        Check.due("no further", x.undo(), false);
    }

    private static void fault() {
        Sentence.of(5, "Of the latest loft() what 0: its FAULT (0), 1: its place (NONE).");
        CordLoft x = new CordLoft();
        Check.due("ahead of any", x.fault(0), 0);
        Check.due("ahead of any", x.fault(1), NONE);
        Check.read(x, "lamp a;$");
        Check.due("its fault", x.fault(0), 1);
        Check.due("its place", x.fault(1), 7);
        x.feed(BLANKS, BLANKS, BLANKS, BLANKS, BLANKS);
        Check.due("till the next loft()", x.fault(1), 7);
        x.end(0);
        Check.read(x, "lamp a;lamp b;cord c turns z");
        Check.due("the latest", x.fault(0), 5);
        Check.due("the latest", x.fault(1), 27);
        x.loft();
        Check.due("none", x.fault(0), 0);
        Check.due("none", x.fault(1), NONE);
        Sentence.of(5, "NONE for another what.");
        Check.read(x, "$");
        Check.none("fault", x::fault, LOW, -2, -1, 2, 3, 256, FAR);
        Check.refused("fault(2)", Lofts::livedIn, y -> y.fault(2));
    }

    private static void lamp() {
        Sentence.of(6, "Of a LAMP what 0: 1 if LIT, else 0, 1: watts, 2: CORDS that turn it, 3: LAMPS next to it,"
                + " both as bits;");
        CordLoft x = Check.with(Lofts.EIGHT_LAMPS.replace("h;", "h lit watts 99;") + "cord p turns h;cord q turns a;"
                + "cord r turns b;cord s turns b;cord t turns b;cord u turns b;cord v turns b;cord w turns h;next h a;");
        int[] last = {1, 99, 129, 1};
        int[] first = {0, 1, 2, 128};
        int[] third = {0, 1, 0, 0};
        for (int what = 0; what < 4; what++) {
            Check.due("lamp(7, " + what + ")", x.lamp(7, what), last[what]);
            Check.due("lamp(0, " + what + ")", x.lamp(0, what), first[what]);
            Check.due("lamp(2, " + what + ")", x.lamp(2, what), third[what]);
        }
        Sentence.of(6, "NONE if there is none such, or for another what.");
        Check.none("lamp(i, 1)", i -> x.lamp(i, 1), LOW, -2, -1, 8, 9, 32, 256, FAR);
        Check.none("lamp(0, what)", what -> x.lamp(0, what), LOW, -1, 4, 5, FAR);
        Check.none("lamp(4, what) of four", what -> Lofts.four().lamp(4, what), 0, 1, 2, 3);
        Check.none("lamp(0, what) of none", what -> new CordLoft().lamp(0, what), 0, 1, 2, 3);
        Check.due("lamp(3, 1) of four", Lofts.four().lamp(3, 1), 1);
    }

    private static void cord() {
        Sentence.of(7, "Of a CORD what 0: its LAMPS, as bits, 1: costs, 2: 1 if TIED, else 0;");
        CordLoft x = Check.with(Lofts.EIGHT.replace("turns h;", "turns h a costs 20;"));
        Check.due("its lamps", x.cord(7, 0), 129);
        Check.due("costs", x.cord(7, 1), 20);
        Check.due("not tied", x.cord(7, 2), 0);
        x.tie(7);
        Check.due("tied", x.cord(7, 2), 1);
        Check.due("another is not", x.cord(6, 2), 0);
        Check.due("costs if not told", x.cord(0, 1), 1);
        Sentence.of(7, "NONE if there is none such, or for another what.");
        Check.none("cord(i, 0)", i -> x.cord(i, 0), LOW, -2, -1, 8, 9, 32, 256, FAR);
        Check.none("cord(0, what)", what -> x.cord(0, what), LOW, -1, 3, 4, FAR);
        Check.none("cord(4, what) of four", what -> Lofts.four().cord(4, what), 0, 1, 2);
        Check.none("cord(0, what) of none", what -> new CordLoft().cord(0, what), 0, 1, 2);
        Check.due("cord(3, 1) of four", Lofts.four().cord(3, 1), 2);
    }

    private static void about() {
        Sentence.of(58, "What 0: LAMPS, 1: CORDS, 2: TIED ones, as bits, 3: what is SPENT, 4: the night, 5: the SEED,"
                + " 6: ACTS that can be undone, 7: redone, 8: what is SEEN, 9: the TIME, 10: bytes on the TAPE, 11: units,"
                + " 12: numbers that lie there, 13: least, 14: gusts in 100.");
        CordLoft x = Lofts.livedIn();
        int[] want = {4, 4, 4, 3, 1, 304, 3, 2, 2, 5, 18, 4, 2, 1, 30};
        for (int what = 0; what < want.length; what++) {
            Check.due("about(" + what + ")", x.about(what), want[what]);
        }
        Sentence.of(58, "NONE for another what.");
        Check.none("about", x::about, LOW, -15, -2, -1, 15, 16, 256, FAR);
        Check.refused("about(15)", Lofts::livedIn, y -> y.about(15));
    }
}
