/** Boundary cases of steady ways: how many pulls, in how many rows, and what lies there then. */
final class WayBoundaries {
    private static final int NONE = CordLoft.NONE;
    private static final int FAR = Integer.MAX_VALUE;
    private static final int LOW = Integer.MIN_VALUE;

    private WayBoundaries() {
    }

    static void test() {
        fewestPulls();
        least();
        firstOfLike();
        steady();
        lying();
        rows();
        lies();
    }

    /** The cords that lie there behind a steady way to a picture. */
    private static void way(CordLoft x, int picture, int... cords) {
        Check.due("steady(" + picture + ")", x.steady(picture), cords.length);
        for (int i = 0; i < cords.length; i++) {
            Check.due("lies(" + i + ")", x.lies(i), cords[i]);
        }
        Check.due("lies(" + cords.length + ")", x.lies(cords.length), NONE);
        Check.due("numbers that lie there", x.about(12), cords.length);
    }

    private static void fewestPulls() {
        Sentence.of(Sentence.TERMS, "STEADY to a PICTURE: the fewest PULLS of FREE CORDS, one behind the other (also one CORD"
                + " several times)");
        CordLoft one = Check.with("lamp a;lamp b;cord x turns a;cord y turns b;cord z turns a b;");
        way(one, 3, 2);
        one.tie(2);
        way(one, 3, 0, 1);
        // x or y alone would leave one lamp, so h lights e till both are pulled
        CordLoft twice = Check.with("lamp a lit;lamp b lit;lamp c;lamp d;lamp e;"
                + "cord x turns a b c;cord y turns a b d;cord h turns e;least 2;");
        way(twice, 15, 2, 0, 1, 2);
    }

    private static void least() {
        Sentence.of(Sentence.TERMS, "behind each of which (not now) no fewer LAMPS are LIT than least tells,"
                + " till it is there;");
        CordLoft dark = Check.with("lamp a;lamp b;cord x turns a;cord y turns b;least 1;");
        way(dark, 1, 0);
        way(dark, 3, 0, 1);
        way(dark, 0);
        CordLoft one = Check.with("lamp a lit;lamp b;cord x turns a;cord y turns b;least 1;");
        way(one, 2, 1, 0);
        Check.due("none would burn", one.steady(0), NONE);
        CordLoft two = Check.with("lamp a lit;lamp b;cord x turns a;cord y turns b;least 2;");
        way(two, 3, 1);
        Check.due("one would burn", two.steady(2), NONE);
        way(two, 1);
        CordLoft eight = Check.with(Lofts.EIGHT.replaceAll("lamp ([b-h]);", "lamp $1 lit;") + "least 8;");
        way(eight, 255, 0);
        Check.due("seven would burn", eight.steady(127), NONE);
        Check.due("none need burn", Check.with("lamp a lit;cord x turns a;least 0;").steady(0), 1);
    }

    private static void firstOfLike() {
        Sentence.of(Sentence.TERMS, "of like ones the first (PULL by PULL: the least CORD).");
        CordLoft x = Check.with("lamp a;lamp b;lamp c;lamp d;cord x turns a b;cord y turns a c;"
                + "cord z turns b d;cord w turns c d;");
        // y and z are the lesser set, but x comes first
        Check.due("as a set", x.fewest(15, 1), 6);
        way(x, 15, 0, 3);
        x.tie(0);
        way(x, 15, 1, 2);
        CordLoft like = Check.with("lamp a;lamp b;cord p turns b;cord q turns b;cord r turns a;cord s turns a;");
        way(like, 3, 0, 2);
        way(like, 1, 2);
    }

    private static void steady() {
        Sentence.of(28, "STEADY: how many PULLS (0: it is there);");
        way(Lofts.four(), 5);
        way(Lofts.eight(), 255, 0, 1, 2, 3, 4, 5, 6, 7);
        way(Lofts.eight(), 128, 7);
        way(new CordLoft(), 0);
        way(Check.with("lamp a lit;least 8;"), 1);
        Sentence.of(28, "NONE if by none.");
        CordLoft x = Lofts.four();
        Check.none("steady", x::steady, 1, 2, 4, 7, 13);
        Check.none("steady to a bit of no lamp", x::steady, LOW, -2, -1, 16, 17, 32, 256, FAR);
        Check.none("steady of eight", Lofts.eight()::steady, LOW, -1, 256, FAR);
        Check.none("steady of no lamps", new CordLoft()::steady, -1, 1);
        CordLoft tied = Lofts.eight();
        tied.tie(7);
        Check.none("steady without the last cord", tied::steady, 128, 255);
    }

    private static void lying() {
        Sentence.of(28, "CORDS lie there then, in order (behind NONE: nothing).");
        for (int picture : new int[] {1, 16, -1, LOW}) {
            CordLoft x = Lofts.four();
            way(x, 15, 1, 3);
            Check.due("steady(" + picture + ")", x.steady(picture), NONE);
            Check.due("numbers that lie there", x.about(12), 0);
            Check.due("lies(0)", x.lies(0), NONE);
        }
        CordLoft x = Lofts.four();
        way(x, 15, 1, 3);
        way(x, 9, 3);
        way(x, 5);
        // acts leave what lies there as it is
        way(x, 15, 1, 3);
        x.pull(1);
        x.tie(0);
        x.dusk();
        x.undo();
        Check.due("still two", x.about(12), 2);
        Check.due("still", x.lies(0), 1);
    }

    private static void rows() {
        Sentence.of(29, "In how many rows of so many PULLS a PICTURE is there STEADY (0 if by none; 1, of none, if it is"
                + " there; an int, wrapping).");
        CordLoft x = Lofts.four();
        Check.due("by none", x.rows(1), 0);
        for (int picture : new int[] {LOW, -1, 16, 256, FAR}) {
            Check.due("by none: a bit of no lamp", x.rows(picture), 0);
        }
        Check.due("it is there", x.rows(5), 1);
        Check.due("no lamps", new CordLoft().rows(0), 1);
        Check.due("no lamps", new CordLoft().rows(1), 0);
        Check.due("it is there, though too few burn", Check.with("lamp a;lamp b lit;cord x turns a;least 2;").rows(2), 1);
        Check.due("all rows of eight", Lofts.eight().rows(255), 40320);
        Check.due("by any of eight", Check.with("lamp a;cord a turns a;cord b turns a;cord c turns a;cord d turns a;"
                + "cord e turns a;cord f turns a;cord g turns a;cord h turns a;").rows(1), 8);
        // a may not go out ahead of b's burning
        Check.due("one of two rows", Check.with("lamp a lit;lamp b;cord x turns a;cord y turns b;least 1;").rows(2), 1);
        Check.due("both rows", Check.with("lamp a lit;lamp b;cord x turns a;cord y turns b;").rows(2), 2);
        x.steady(15);
        x.rows(1);
        Check.due("what lies there stays", x.about(12), 2);
    }

    private static void lies() {
        Sentence.of(48, "The i-th number of what lies there;");
        CordLoft x = Lofts.eight();
        x.steady(240);
        for (int i = 0; i < 4; i++) {
            Check.due("lies(" + i + ")", x.lies(i), 4 + i);
        }
        Sentence.of(48, "NONE if there is none such.");
        Check.none("lies", x::lies, LOW, -2, -1, 4, 5, 255, 256, FAR);
        Check.none("lies in a new object", new CordLoft()::lies, -1, 0, 1);
        x.steady(0);
        Check.none("lies when it is there", x::lies, 0, 1);
    }
}
