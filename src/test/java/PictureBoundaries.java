import java.util.ArrayList;
import java.util.List;
import java.util.function.ToIntFunction;

/** Boundary cases of what is asked about pictures that can be, and about cords and lamps. */
final class PictureBoundaries {
    private static final int NONE = CordLoft.NONE;
    private static final int FAR = Integer.MAX_VALUE;
    private static final int LOW = Integer.MIN_VALUE;
    private static final int[] NO_PICTURE_OF_FOUR = {LOW, LOW + 1, -16, -2, -1, 16, 17, 31, 32, 256, 1 << 30, FAR};
    private static final int[] NO_CORD_OF_FOUR = {LOW, -2, -1, 4, 5, 8, 32, 256, FAR};
    private static final int[] NEITHER_0_NOR_1 = {LOW, -2, -1, 2, 3, 256, FAR};
    // all of one lamp, as many as there can be
    private static final String ALIKE = "lamp a;lamp b;cord a turns a;cord b turns a;cord c turns a;cord d turns a;"
            + "cord e turns a;cord f turns a;cord g turns a;cord h turns a;";

    private record Query(String name, ToIntFunction<CordLoft> call) {
    }

    private static final List<Query> OF_CORDS = List.of(
            new Query("can(0)", x -> x.can(0)), new Query("can(1)", x -> x.can(1)), new Query("can(16)", x -> x.can(16)),
            new Query("fewest(0, 1)", x -> x.fewest(0, 1)), new Query("fewest(1, 0)", x -> x.fewest(1, 0)),
            new Query("cheapest(0, 1)", x -> x.cheapest(0, 1)), new Query("cheapest(0, 2)", x -> x.cheapest(0, 2)),
            new Query("ways(0)", x -> x.ways(0)), new Query("ways(-1)", x -> x.ways(-1)),
            new Query("silent(1)", x -> x.silent(1)), new Query("silent(2)", x -> x.silent(2)),
            new Query("pictures()", CordLoft::pictures), new Query("spare()", CordLoft::spare),
            new Query("brightest(1)", x -> x.brightest(1)), new Query("brightest(2)", x -> x.brightest(2)),
            new Query("dimmest(0)", x -> x.dimmest(0)), new Query("dimmest(-1)", x -> x.dimmest(-1)),
            new Query("nearest(1, 1)", x -> x.nearest(1, 1)), new Query("nearest(16, 0)", x -> x.nearest(16, 0)),
            new Query("apart(1)", x -> x.apart(1)), new Query("apart(2)", x -> x.apart(2)),
            new Query("mark(1)", x -> x.mark(1)), new Query("mark(2)", x -> x.mark(2)),
            new Query("game(0)", x -> x.game(0)), new Query("game(1)", x -> x.game(1)),
            new Query("knot(3)", x -> x.knot(3)), new Query("knot(4)", x -> x.knot(4)),
            new Query("more(0)", x -> x.more(0)), new Query("more(2)", x -> x.more(2)),
            new Query("exchange(2)", x -> x.exchange(2)), new Query("exchange(3)", x -> x.exchange(3)),
            new Query("loosen()", CordLoft::loosen), new Query("boldest(0)", x -> x.boldest(0)),
            new Query("boldest(1)", x -> x.boldest(1)), new Query("dearest()", CordLoft::dearest),
            new Query("odd()", CordLoft::odd), new Query("alike(0)", x -> x.alike(0)),
            new Query("alone()", CordLoft::alone), new Query("burning()", CordLoft::burning),
            new Query("load()", CordLoft::load), new Query("longest()", CordLoft::longest),
            new Query("law(3)", x -> x.law(3)), new Query("law(21)", x -> x.law(21)));
    private static final List<Query> OF_DUSKS = List.of(
            new Query("will(2, 0)", x -> x.will(2, 0)), new Query("will(60, 0)", x -> x.will(60, 0)),
            new Query("again(0)", x -> x.again(0)), new Query("again(1)", x -> x.again(1)),
            new Query("again(2)", x -> x.again(2)), new Query("pasts(0)", x -> x.pasts(0)),
            new Query("pasts(1)", x -> x.pasts(1)), new Query("pasts(2)", x -> x.pasts(2)),
            new Query("still()", CordLoft::still));
    private static final List<Query> OTHERS = List.of(
            new Query("steady(15)", x -> x.steady(15)), new Query("rows(15)", x -> x.rows(15)),
            new Query("rows(16)", x -> x.rows(16)), new Query("will(60, 1)", x -> x.will(60, 1)),
            new Query("odds(4, 1)", x -> x.odds(4, 1)), new Query("odds(5, 0)", x -> x.odds(5, 0)),
            new Query("fits(5)", x -> x.fits(5)), new Query("fit(5)", x -> x.fit(5)),
            new Query("sure(0, 5)", x -> x.sure(0, 5)), new Query("ask(0, 5)", x -> x.ask(0, 5)),
            new Query("lies(0)", x -> x.lies(0)), new Query("picture()", CordLoft::picture),
            new Query("lamp(0, 0)", x -> x.lamp(0, 0)), new Query("cord(0, 2)", x -> x.cord(0, 2)));

    private PictureBoundaries() {
    }

    static void test() {
        byWhatIsNow();
        can();
        fewest();
        cheapest();
        ways();
        silent();
        picturesAndSpare();
        brightest();
        dimmest();
        nearest();
        apart();
        mark();
        game();
        again();
        pasts();
        still();
        knot();
        more();
        exchange();
        oneCord();
        lamps();
        law();
        odds();
    }

    private static void byWhatIsNow() {
        Sentence.of(Sentence.TERMS, "(By what is now; nothing is done;");
        for (List<Query> queries : List.of(OF_CORDS, OF_DUSKS, OTHERS)) {
            for (Query query : queries) {
                CordLoft x = Lofts.livedIn();
                int first = query.call().applyAsInt(x);
                Check.due(query.name() + " once more", query.call().applyAsInt(x), first);
                Check.same("all behind " + query.name(), Trace.of(x), Trace.of(Lofts.livedIn()));
            }
        }
        oneBehindTheOther();
        Sentence.of(Sentence.TERMS, "no gusts, if not told otherwise;");
        String dusk = Lofts.FOUR + "dusk near=1;";
        for (Query query : OF_DUSKS) {
            CordLoft gusty = Check.with(dusk + "gusts 100;");
            Check.due(query.name(), query.call().applyAsInt(gusty), query.call().applyAsInt(Check.with(dusk)));
        }
        Sentence.of(Sentence.TERMS, "what least tells does not matter, if not told otherwise.)");
        for (int least : new int[] {1, 3, 8}) {
            for (Query query : OF_CORDS) {
                CordLoft bound = Check.with(Lofts.FOUR + "least " + least + ";");
                Check.due(query.name() + " by least " + least, query.call().applyAsInt(bound),
                        query.call().applyAsInt(Lofts.four()));
            }
        }
        Sentence.of(Sentence.TERMS, "FREE are CORDS that are not TIED.");
        CordLoft x = Lofts.eight();
        for (int cord = 0; cord < 8; cord++) {
            x.tie(cord);
            Check.due("pictures", x.pictures(), 128 >> cord);
        }
        for (int cord = 0; cord < 8; cord++) {
            x.loose(cord);
            Check.due("pictures", x.pictures(), 2 << cord);
        }
    }

    /** What was asked before is no matter: each question behind each other one. */
    private static void oneBehindTheOther() {
        List<Query> queries = new ArrayList<>(OF_CORDS);
        queries.addAll(OF_DUSKS);
        for (Query query : queries) {
            int alone = query.call().applyAsInt(Lofts.livedIn());
            CordLoft x = Lofts.livedIn();
            for (Query other : queries) {
                other.call().applyAsInt(x);
                Check.due(query.name() + " behind " + other.name(), query.call().applyAsInt(x), alone);
            }
        }
    }

    private static void can() {
        Sentence.of(Sentence.TERMS, "A PICTURE CAN BE if it is there when each of some FREE CORDS (none, too) is pulled"
                + " once now.");
        CordLoft bare = Check.with("lamp a lit;lamp b;");
        Check.due("by none", bare.can(1), 1);
        Check.due("another one", bare.can(0) + bare.can(2) + bare.can(3), 0);
        Sentence.of(16, "Whether a PICTURE CAN BE: 1, 0;");
        CordLoft x = Lofts.four();
        for (int picture = 0; picture < 16; picture++) {
            // each cord turns two, so an even number burns
            Check.due("can(" + picture + ")", x.can(picture), 1 - Integer.bitCount(picture) % 2);
        }
        Check.due("the last of eight", Lofts.eight().can(255), 1);
        Check.due("no lamps", new CordLoft().can(0), 1);
        Sentence.of(16, "NONE if it has a bit of no LAMP.");
        Check.none("can", x::can, NO_PICTURE_OF_FOUR);
        Check.none("can of eight lamps", Lofts.eight()::can, LOW, -1, 256, 257, FAR);
        Check.none("can of no lamps", new CordLoft()::can, -1, 1, 2);
    }

    private static void fewest() {
        Sentence.of(Sentence.TERMS, "FEWEST for a PICTURE: the fewest of these; of like ones the least set as bits.");
        CordLoft pairs = Check.with("lamp a;lamp b;cord x turns a;cord y turns a;cord z turns b;cord w turns b;");
        Check.due("x and z", pairs.fewest(3, 1), 5);
        // x and y make up three, z alone is a greater set but of fewer
        CordLoft one = Check.with("lamp a;lamp b;cord x turns a;cord y turns b;cord z turns a b;");
        Check.due("z", one.fewest(3, 1), 4);
        Check.due("one", one.fewest(3, 0), 1);
        one.tie(2);
        Check.due("x and y, z being tied", one.fewest(3, 1), 3);
        Sentence.of(17, "FEWEST what 0: how many, 1: which, as bits;");
        CordLoft x = Lofts.four();
        Check.due("none are needed", x.fewest(5, 0), 0);
        Check.due("none are needed", x.fewest(5, 1), 0);
        Check.due("all eight", Lofts.eight().fewest(255, 0), 8);
        Check.due("all eight", Lofts.eight().fewest(255, 1), 255);
        Check.due("no lamps", new CordLoft().fewest(0, 0), 0);
        Sentence.of(17, "NONE if it can't be, or for another what.");
        Check.none("fewest(p, 0)", p -> x.fewest(p, 0), 1, 2, 4, 7, 14);
        Check.none("fewest(p, 1)", p -> x.fewest(p, 1), 1, 8, 13);
        Check.none("fewest(p, 0)", p -> x.fewest(p, 0), NO_PICTURE_OF_FOUR);
        Check.none("fewest(p, 1) of eight", p -> Lofts.eight().fewest(p, 1), -1, 256);
        Check.none("fewest(0, what)", what -> x.fewest(0, what), NEITHER_0_NOR_1);
    }

    private static void cheapest() {
        Sentence.of(Sentence.TERMS, "CHEAPEST: those that cost least together; of like ones the fewest, then the least set"
                + " as bits.");
        String seven = Lofts.EIGHT.substring(0, Lofts.EIGHT.indexOf("cord h"))
                .replaceAll("turns ([a-g]);", "turns $1 costs 0;");
        CordLoft cheap = Check.with(seven + "cord h turns a b c d e f g costs 1;");
        Check.due("seven for nothing are cheaper than one for 1", cheap.cheapest(127, 1), 127);
        Check.due("for nothing", cheap.cheapest(127, 0), 0);
        CordLoft as = Check.with(seven + "cord h turns a b c d e f g costs 0;");
        Check.due("of like cost one is fewer than seven", as.cheapest(127, 1), 128);
        CordLoft like = Check.with("lamp a;lamp b;cord x turns a b costs 3;cord y turns a;cord z turns b costs 2;"
                + "cord w turns a b costs 3;");
        Check.due("x, w, or y and z: the fewest, then the least", like.cheapest(3, 1), 1);
        Check.due("they cost", like.cheapest(3, 0), 3);
        like.tie(0);
        Check.due("w is fewer than y and z", like.cheapest(3, 1), 8);
        CordLoft nothing = Check.with("lamp a;cord x turns a costs 0;cord y turns a costs 0;");
        Check.due("none are fewer than two for nothing", nothing.cheapest(0, 1), 0);
        Sentence.of(18, "CHEAPEST what 0: what they cost, 1: which, as bits;");
        CordLoft dear = Check.with(Lofts.EIGHT.replaceAll("turns ([a-h]);", "turns $1 costs 20;"));
        Check.due("as dear as can be", dear.cheapest(255, 0), 160);
        Check.due("all eight", dear.cheapest(255, 1), 255);
        Check.due("by none", dear.cheapest(0, 0), 0);
        Check.due("by none", dear.cheapest(0, 1), 0);
        Sentence.of(18, "NONE if it can't be, or for another what.");
        CordLoft x = Lofts.four();
        Check.none("cheapest(p, 0)", p -> x.cheapest(p, 0), 1, 2, 4, 7, 14);
        Check.none("cheapest(p, 1)", p -> x.cheapest(p, 1), 1, 8, 13);
        Check.none("cheapest(p, 0)", p -> x.cheapest(p, 0), NO_PICTURE_OF_FOUR);
        Check.none("cheapest(0, what)", what -> x.cheapest(0, what), NEITHER_0_NOR_1);
    }

    private static void ways() {
        Sentence.of(19, "By how many sets of FREE CORDS, each pulled once now, a PICTURE is there;");
        Check.due("half of 256", Check.with(ALIKE).ways(0), 128);
        Check.due("half of 256", Check.with(ALIKE).ways(1), 128);
        Check.due("can't be", Check.with(ALIKE).ways(2), 0);
        Check.due("one", Lofts.eight().ways(255), 1);
        Check.due("without cords", Check.with("lamp a lit;").ways(1), 1);
        Check.due("without cords", Check.with("lamp a lit;").ways(0), 0);
        Check.due("no lamps", new CordLoft().ways(0), 1);
        CordLoft tied = Check.with(ALIKE);
        tied.tie(7);
        tied.tie(0);
        Check.due("free ones", tied.ways(1), 32);
        Sentence.of(19, "NONE if it has a bit of no LAMP.");
        Check.none("ways", Lofts.four()::ways, NO_PICTURE_OF_FOUR);
        Check.none("ways of eight lamps", Lofts.eight()::ways, LOW, -1, 256, FAR);
        Check.none("ways of no lamps", new CordLoft()::ways, -1, 1);
    }

    private static void silent() {
        Sentence.of(Sentence.TERMS, "SILENT: the fewest FREE CORDS, one at least, that, each pulled once, change nothing;"
                + " of like ones the least set as bits.");
        // x, y and z would, but z and w are fewer
        CordLoft few = Check.with("lamp a;lamp b;lamp c;cord x turns a b;cord y turns b c;cord z turns a c;cord w turns a c;");
        Check.due("z and w", few.silent(1), 12);
        few.tie(3);
        Check.due("w being tied", few.silent(1), 7);
        Check.due("the first two of eight", Check.with(ALIKE).silent(1), 3);
        Check.due("none are not enough", Lofts.eight().silent(0), NONE);
        Sentence.of(20, "SILENT what 0: how many, 1: which, as bits;");
        CordLoft all = Check.with(Lofts.EIGHT.replace("turns h;", "turns a b c d e f g;"));
        Check.due("all eight", all.silent(0), 8);
        Check.due("all eight", all.silent(1), 255);
        Check.due("two", Check.with(ALIKE).silent(0), 2);
        Sentence.of(20, "NONE if there are none, or for another what.");
        all.tie(7);
        Check.none("silent without one of them", all::silent, 0, 1);
        Check.none("silent of no cords", new CordLoft()::silent, 0, 1);
        Check.none("silent", Lofts.four()::silent, NEITHER_0_NOR_1);
    }

    private static void picturesAndSpare() {
        Sentence.of(21, "How many PICTURES CAN BE.");
        Check.due("no lamps", new CordLoft().pictures(), 1);
        Check.due("no cords", Check.with(Lofts.EIGHT_LAMPS).pictures(), 1);
        Check.due("all of eight lamps", Lofts.eight().pictures(), 256);
        Check.due("by like cords", Check.with(ALIKE).pictures(), 2);
        Check.due("half of them", Lofts.four().pictures(), 8);
        // all twos of a ring: an even number burns
        CordLoft ring = Check.with(Lofts.EIGHT_LAMPS + "cord a turns a b;cord b turns b c;cord c turns c d;cord d turns d e;"
                + "cord e turns e f;cord f turns f g;cord g turns g h;cord h turns h a;");
        Check.due("half of 256", ring.pictures(), 128);
        Sentence.of(Sentence.TERMS, "SPARE is a FREE CORD without which no fewer PICTURES CAN BE.");
        Check.due("x, y and z, not w", Lofts.four().spare(), 7);
        CordLoft tied = Lofts.four();
        tied.tie(1);
        Check.due("none when y is tied", tied.spare(), 0);
        Sentence.of(22, "SPARE CORDS, as bits.");
        Check.due("each of a ring", ring.spare(), 255);
        Check.due("none", Lofts.eight().spare(), 0);
        Check.due("each of eight like ones", Check.with(ALIKE).spare(), 255);
        Check.due("no cords", new CordLoft().spare(), 0);
    }

    private static void brightest() {
        Sentence.of(Sentence.TERMS, "BRIGHTEST: the PICTURE that CAN BE of the most LIT LAMPS; of like ones the least.");
        Check.due("a, not b", Check.with("lamp a;lamp b lit;cord x turns a b;").brightest(1), 1);
        Check.due("a stays", Check.with("lamp a lit;lamp b;cord x turns a b;").brightest(1), 1);
        Check.due("lamps, not watts", Check.with("lamp a lit watts 0;lamp b watts 0;lamp c watts 99;"
                + "cord x turns b;cord y turns a b c;").brightest(1), 3);
        Sentence.of(23, "BRIGHTEST what 0: how many LAMPS, 1: the PICTURE;");
        Check.due("all eight", Lofts.eight().brightest(0), 8);
        Check.due("all eight", Lofts.eight().brightest(1), 255);
        Check.due("no lamps", new CordLoft().brightest(0), 0);
        Check.due("no lamps", new CordLoft().brightest(1), 0);
        Check.due("no cords, dark", Check.with("lamp a;").brightest(0), 0);
        Sentence.of(23, "NONE for another what.");
        Check.none("brightest", Lofts.four()::brightest, NEITHER_0_NOR_1);
    }

    private static void dimmest() {
        Sentence.of(Sentence.TERMS, "DIMMEST: that of the least watts of all LIT LAMPS together; of like ones the least.");
        Check.due("a, not b", Check.with("lamp a watts 2;lamp b lit watts 2;cord x turns a b;").dimmest(1), 1);
        Check.due("two of one watt, not one of three", Check.with("lamp a lit;lamp b lit;lamp c watts 3;"
                + "cord x turns a b c;").dimmest(1), 3);
        Check.due("0 watts, and the least", Check.with("lamp a lit watts 0;lamp b watts 0;cord x turns a b;").dimmest(1), 1);
        Sentence.of(24, "DIMMEST what 0: how many watts, 1: the PICTURE;");
        CordLoft bright = Check.with(Lofts.EIGHT_LAMPS.replace(";", " lit watts 99;"));
        Check.due("eight of 99", bright.dimmest(0), 792);
        Check.due("eight of 99", bright.dimmest(1), 255);
        Check.due("0 watts", Check.with("lamp a lit watts 0;").dimmest(0), 0);
        Check.due("the picture of 0 watts", Check.with("lamp a lit watts 0;").dimmest(1), 1);
        Check.due("no lamps", new CordLoft().dimmest(0), 0);
        Sentence.of(24, "NONE for another what.");
        Check.none("dimmest", Lofts.four()::dimmest, NEITHER_0_NOR_1);
    }

    private static void nearest() {
        Sentence.of(Sentence.TERMS, "NEAREST to a PICTURE: that which CAN BE and differs from it in the fewest LAMPS; of"
                + " like ones the least.");
        CordLoft two = Check.with("lamp a;lamp b lit;cord x turns a b;");
        Check.due("both differ in one, the least", two.nearest(0, 1), 1);
        Check.due("both differ in one, the least", two.nearest(3, 1), 1);
        Check.due("itself", two.nearest(2, 1), 2);
        CordLoft far = Check.with("lamp a;lamp b;lamp c;cord x turns a b c;");
        Check.due("7 is nearer to 6 than 0", far.nearest(6, 1), 7);
        Check.due("0 is nearer to 4 than 7", far.nearest(4, 1), 0);
        Sentence.of(25, "NEAREST what 0: in how many LAMPS it differs, 1: the PICTURE;");
        Check.due("in none", two.nearest(2, 0), 0);
        Check.due("in one", two.nearest(3, 0), 1);
        Check.due("in eight", Check.with(Lofts.EIGHT_LAMPS).nearest(255, 0), 8);
        Check.due("of no lamps", new CordLoft().nearest(0, 0), 0);
        Sentence.of(25, "NONE if a bit is of no LAMP, or for another what.");
        Check.none("nearest(p, 0)", p -> Lofts.four().nearest(p, 0), NO_PICTURE_OF_FOUR);
        Check.none("nearest(p, 1)", p -> Lofts.eight().nearest(p, 1), LOW, -1, 256, FAR);
        Check.none("nearest(0, what)", what -> Lofts.four().nearest(0, what), NEITHER_0_NOR_1);
    }

    private static void apart() {
        Sentence.of(Sentence.TERMS, "APART: the fewest LAMPS, as bits, in which two unlike PICTURES that CAN BE differ; of"
                + " like ones the least.");
        CordLoft both = Check.with("lamp a;lamp b;lamp c;lamp d;cord x turns a b c;cord y turns b c d;");
        Check.due("by both cords a and d, fewer than three", both.apart(1), 9);
        Check.due("of like ones the least", Lofts.eight().apart(1), 1);
        Check.due("unlike ones", Check.with(ALIKE).apart(1), 1);
        Sentence.of(26, "APART what 0: how many, 1: which, as bits;");
        Check.due("two", both.apart(0), 2);
        CordLoft whole = Check.with(Lofts.EIGHT_LAMPS + "cord c turns a b c d e f g h;");
        Check.due("all eight", whole.apart(0), 8);
        Check.due("all eight", whole.apart(1), 255);
        Sentence.of(26, "NONE if just one PICTURE CAN BE, or for another what.");
        whole.tie(0);
        Check.none("apart when none is free", whole::apart, 0, 1);
        Check.none("apart of a new object", new CordLoft()::apart, 0, 1);
        Check.none("apart", both::apart, NEITHER_0_NOR_1);
    }

    private static void mark() {
        Sentence.of(Sentence.TERMS, "MARK: the fewest LAMPS, one at least, of which each FREE CORD turns an even number; of"
                + " like ones the least set as bits.");
        CordLoft x = Check.with("lamp a;lamp b;lamp c;lamp d;cord x turns a b;cord y turns b c;");
        Check.due("d alone, not a, b and c", x.mark(1), 8);
        Check.due("none is even", Check.with("lamp a;lamp b;lamp c;cord x turns a;").mark(1), 2);
        Check.due("two of one cord, the least", Check.with("lamp a;lamp b;lamp c;cord x turns a b c;").mark(1), 3);
        Check.due("without a free cord the first", Check.with("lamp a;lamp b;").mark(1), 1);
        Sentence.of(27, "MARK what 0: how many, 1: which, as bits;");
        CordLoft ring = Check.with(Lofts.EIGHT_LAMPS + "cord a turns a b;cord b turns b c;cord c turns c d;cord d turns d e;"
                + "cord e turns e f;cord f turns f g;cord g turns g h;");
        Check.due("all eight", ring.mark(0), 8);
        Check.due("all eight", ring.mark(1), 255);
        ring.tie(6);
        Check.due("one", ring.mark(0), 1);
        Check.due("the last", ring.mark(1), 128);
        Sentence.of(27, "NONE if there are none, or for another what.");
        Check.none("mark of all pictures", Lofts.eight()::mark, 0, 1);
        Check.none("mark of no lamps", new CordLoft()::mark, 0, 1);
        Check.none("mark", x::mark, NEITHER_0_NOR_1);
    }

    private static void game() {
        Sentence.of(Sentence.TERMS, "GAME: two pull by turns a FREE CORD that neither of both has pulled;");
        CordLoft turns = Check.with("lamp a lit;lamp b lit;lamp c;cord x turns a;cord y turns b;cord z turns c;");
        // x or y would leave the other one a win; behind z no two pulls make it dark
        Check.due("z saves", turns.game(0), 0);
        Check.due("z", turns.game(1), 2);
        Check.due("not twice", Check.with("lamp a;cord x turns a;").game(0), 0);
        CordLoft tied = Check.with("lamp a lit;cord x turns a;cord y turns a;");
        tied.tie(0);
        Check.due("a free one", tied.game(1), 1);
        Sentence.of(Sentence.TERMS, "who pulls so that no LAMP is LIT has won at once; if no CORD is left, neither has;");
        Check.due("at once", Check.with("lamp a lit;cord x turns a;cord y turns a;").game(0), 1);
        Check.due("dark already is not won", Check.with("lamp a;lamp b;cord x turns b;").game(0), 0);
        Check.due("one is left lit", Check.with("lamp a lit;lamp b;cord x turns b;").game(0), 0);
        Sentence.of(Sentence.TERMS, "its VALUE to who begins, if both do their best: 1 (won), 0 (neither), -1 (lost).");
        CordLoft lost = Check.with("lamp a lit;lamp b lit;cord x turns a;cord y turns b;");
        Check.due("lost", lost.game(0), -1);
        Check.due("won by the third pull", Check.with("lamp a lit;lamp b lit;lamp c lit;"
                + "cord x turns a;cord y turns b;cord z turns c;").game(0), 1);
        Sentence.of(30, "GAME what 0: its VALUE, 1: the first CORD by which it is that;");
        Check.due("lost by whichever, the first", lost.game(1), 0);
        Check.due("the first that wins", Check.with("lamp a lit;lamp b;cord x turns b;cord y turns a;"
                + "cord z turns a;").game(1), 1);
        Check.due("eight of neither", Lofts.eight().game(0), 0);
        Check.due("the first of eight", Lofts.eight().game(1), 0);
        Sentence.of(30, "NONE (of 1) if there is no FREE CORD, or for another what.");
        lost.tie(0);
        lost.tie(1);
        Check.due("no free cord", lost.game(1), NONE);
        Check.due("no free cord: neither", lost.game(0), 0);
        Check.due("no cord: neither", new CordLoft().game(0), 0);
        Check.due("no cord", new CordLoft().game(1), NONE);
        Check.none("game", Lofts.four()::game, NEITHER_0_NOR_1);
        Sentence.of(30, "VALUE itself may be -1.");
        Check.due("lost", Check.with(ALIKE).game(0), -1);
        Check.due("by the first", Check.with(ALIKE).game(1), 0);
    }

    private static void again() {
        Sentence.of(Sentence.TERMS, "AGAIN: behind how many DUSKS first there is a PICTURE that there was behind fewer"
                + " (none, too).");
        Check.due("at once", Check.with("lamp a lit;").again(0), 1);
        Check.due("as behind none", Check.with("lamp a lit;").again(1), 0);
        Check.due("the picture alone, not the night", Check.with("lamp a;dusk night=1;").again(0), 1);
        CordLoft out = Check.with("lamp a lit;lamp b;dusk lit;");
        Check.due("dark twice", out.again(0), 2);
        Check.due("as behind one", out.again(1), 1);
        Sentence.of(31, "AGAIN what 0: behind how many (1 .. 300), 1: behind how many it was before, the fewest;");
        Check.due("no lamps", new CordLoft().again(0), 1);
        Check.due("no lamps", new CordLoft().again(1), 0);
        // the night, counted in lamps: no two of 256 pictures are alike, and there are no more
        CordLoft count = Check.with("lamp a;lamp b watts 2;lamp c watts 4;lamp d watts 8;lamp e watts 16;lamp f watts 32;"
                + "lamp g watts 64;lamp h watts 64;dusk night%(watts*(1+(number=7)))=watts*(1+(number=7))-1;");
        Check.due("as many as there can be", count.again(0), 256);
        Check.due("as behind none", count.again(1), 0);
        for (int i = 0; i < 3; i++) {
            count.dusk();
        }
        Check.due("from now on", count.again(0), 256);
        Check.due("beyond night 255", count.will(60, 0), 63);
        // the last lamp never goes out again
        CordLoft stuck = Check.with("lamp a;lamp b watts 2;lamp c watts 4;dusk night<7 and night%watts=watts-1;");
        Check.due("stays", stuck.again(0), 8);
        Check.due("as behind seven", stuck.again(1), 7);
        Sentence.of(31, "NONE if not in these, or for another what.");
        Check.none("again", Lofts.four()::again, NEITHER_0_NOR_1);
        Check.none("again of 256", count::again, NEITHER_0_NOR_1);
    }

    private static void pasts() {
        Sentence.of(32, "PICTURES that would become this one by a DUSK now what 0: how many, 1: the least;");
        CordLoft out = Check.with(Lofts.EIGHT_LAMPS.replace("h;", "h lit;") + "dusk lit;");
        Check.due("none: one burns", out.pasts(0), 0);
        CordLoft dark = Check.with(Lofts.EIGHT_LAMPS + "dusk lit;");
        Check.due("all become the dark", dark.pasts(0), 256);
        Check.due("the least", dark.pasts(1), 0);
        CordLoft same = Check.with(Lofts.EIGHT_LAMPS.replace(";", " lit;"));
        Check.due("itself", same.pasts(0), 1);
        Check.due("the last", same.pasts(1), 255);
        Check.due("no lamps", new CordLoft().pasts(0), 1);
        Check.due("no lamps", new CordLoft().pasts(1), 0);
        CordLoft now = Check.with("lamp a;lamp b;dusk night=0;");
        Check.due("by the night that is now", now.pasts(1), 3);
        now.dusk();
        Check.due("by the night that is now", now.pasts(1), 3);
        Sentence.of(32, "NONE if there are none (of 1), or for another what.");
        Check.due("none", out.pasts(1), NONE);
        Check.none("pasts", dark::pasts, NEITHER_0_NOR_1);
        Check.none("pasts of none", out::pasts, NEITHER_0_NOR_1);
    }

    private static void still() {
        Sentence.of(33, "How many PICTURES a DUSK now would leave as they are.");
        Check.due("all", Check.with(Lofts.EIGHT_LAMPS).still(), 256);
        Check.due("none", Check.with(Lofts.EIGHT_LAMPS + "dusk 1;").still(), 0);
        Check.due("the dark", Check.with(Lofts.EIGHT_LAMPS + "dusk lit;").still(), 1);
        Check.due("no lamps", Check.with("dusk 1;").still(), 1);
        CordLoft now = Check.with("lamp a;lamp b;dusk night=0;");
        Check.due("by the night that is now", now.still(), 0);
        now.dusk();
        Check.due("by the night that is now", now.still(), 4);
    }

    private static void knot() {
        Sentence.of(Sentence.TERMS, "KNOT of a FREE CORD: how many PICTURES CAN BE no more, were it TIED.");
        Check.due("half of 256", Lofts.eight().knot(7), 128);
        Check.due("half of 256", Lofts.eight().knot(0), 128);
        Check.due("a spare one", Check.with(ALIKE).knot(7), 0);
        CordLoft one = Check.with("lamp a;cord x turns a;");
        Check.due("half of two", one.knot(0), 1);
        Sentence.of(34, "KNOT; NONE if it is TIED, or there is none such.");
        one.tie(0);
        Check.due("tied", one.knot(0), NONE);
        one.loose(0);
        Check.due("loosed", one.knot(0), 1);
        Check.none("knot", Lofts.four()::knot, NO_CORD_OF_FOUR);
        Check.none("knot of eight", Lofts.eight()::knot, -1, 8);
        Check.none("knot of none", new CordLoft()::knot, 0);
    }

    private static void more() {
        Sentence.of(Sentence.TERMS, "MORE: the set of LAMPS (as bits, the least; 0, of none, if all PICTURES CAN BE already)"
                + " such that with one more CORD that turns just these most PICTURES CAN BE.");
        CordLoft all = Lofts.eight();
        Check.due("all can be", all.more(0), 0);
        all.tie(7);
        Check.due("the last lamp", all.more(0), 128);
        all.tie(2);
        Check.due("the least", all.more(0), 4);
        Check.due("a, as a and b are turned together", Check.with("lamp a;lamp b;cord x turns a b;").more(0), 1);
        Check.due("b, as a is turned", Check.with("lamp a;lamp b;lamp c;cord x turns a;cord y turns a;").more(0), 2);
        Sentence.of(35, "MORE what 0: the set, 1: how many PICTURES then;");
        Check.due("twice 64", all.more(1), 128);
        Check.due("all 256", Lofts.eight().more(1), 256);
        Check.due("two of 256", Check.with(Lofts.EIGHT_LAMPS).more(1), 2);
        Check.due("the first lamp", Check.with(Lofts.EIGHT_LAMPS).more(0), 1);
        Check.due("no lamps", new CordLoft().more(0), 0);
        Check.due("no lamps", new CordLoft().more(1), 1);
        Sentence.of(35, "NONE for another what.");
        Check.none("more", Lofts.four()::more, NEITHER_0_NOR_1);
        Check.none("more of all", Lofts.eight()::more, NEITHER_0_NOR_1);
    }

    private static void exchange() {
        Sentence.of(Sentence.TERMS, "EXCHANGE: the two CORDS by the exchange of what they cost CHEAPEST for the dark (no LAMP"
                + " LIT) is cheapest, if that is cheaper than now;");
        String ab = "lamp a lit;lamp b;";
        Check.due("by 1", Check.with(ab + "cord x turns a costs 1;cord y turns b costs 0;").exchange(2), 0);
        Check.due("as cheap as now", Check.with(ab + "cord x turns a;cord y turns b;").exchange(0), NONE);
        Check.due("dearer", Check.with(ab + "cord x turns a costs 1;cord y turns b costs 2;").exchange(0), NONE);
        Check.due("dark for nothing now", Check.with("lamp a;lamp b;cord x turns a costs 9;cord y turns a costs 5;"
                + "cord z turns b costs 0;").exchange(2), NONE);
        CordLoft best = Check.with(ab + "cord x turns a costs 20;cord y turns b costs 3;cord z turns b costs 1;");
        Check.due("z gives more than y", best.exchange(1), 2);
        Check.due("1", best.exchange(2), 1);
        // now z alone for 9; with x for 0 instead of 8, x and y do for 2
        CordLoft another = Check.with("lamp a lit;lamp b lit;lamp c;cord x turns a costs 8;cord y turns b costs 2;"
                + "cord z turns a b costs 9;cord w turns c costs 0;");
        Check.due("z for nothing", another.exchange(2), 0);
        another.tie(2);
        Check.due("x for nothing, y for 2", another.exchange(2), 2);
        Check.due("x", another.exchange(0), 0);
        Check.due("and w", another.exchange(1), 3);
        Sentence.of(Sentence.TERMS, "of like ones the first (the lesser number, then the other one).");
        CordLoft like = Check.with(ab + "cord q turns b costs 2;cord x turns a costs 5;cord y turns b costs 2;");
        Check.due("q and x, not x and y", like.exchange(0), 0);
        Check.due("q and x, not x and y", like.exchange(1), 1);
        CordLoft other = Check.with(ab + "cord x turns a costs 5;cord q turns b costs 2;cord y turns b costs 2;");
        Check.due("x and q, not x and y", other.exchange(1), 1);
        Sentence.of(36, "EXCHANGE what 0: the first one, 1: the other one, 2: what the dark costs then;");
        String eight = Lofts.EIGHT.replace("lamp a;", "lamp a lit;").replace("turns a;", "turns a costs 20;")
                .replace("turns h;", "turns h costs 0;");
        CordLoft x = Check.with(eight);
        int[] want = {0, 7, 0};
        int[] last = {6, 7, 0};
        for (int what = 0; what < 3; what++) {
            Check.due("the first and the last", x.exchange(what), want[what]);
            CordLoft y = Check.with(Lofts.EIGHT.replace("lamp g;", "lamp g lit;").replace("turns h;", "turns h costs 0;"));
            Check.due("the last two", y.exchange(what), last[what]);
        }
        Sentence.of(36, "NONE if there are none, the dark can't be, or for another what.");
        Check.none("exchange of one cord", Check.with("lamp a lit;cord x turns a costs 9;")::exchange, 0, 1, 2);
        Check.none("exchange of no cord", new CordLoft()::exchange, 0, 1, 2);
        CordLoft never = Check.with("lamp a lit;lamp b;cord x turns b costs 9;cord y turns b;");
        Check.none("exchange, the dark can't be", never::exchange, 0, 1, 2);
        Check.none("exchange", x::exchange, LOW, -2, -1, 3, 4, FAR);
        x.tie(0);
        Check.none("exchange, the dark can't be any more", x::exchange, 0, 1, 2);
    }

    private static void oneCord() {
        Sentence.of(37, "The TIED CORD by whose being loosed most PICTURES CAN BE; of like ones the first;");
        CordLoft x = Lofts.eight();
        x.tie(7);
        Check.due("the only one", x.loosen(), 7);
        CordLoft first = Lofts.eight();
        first.tie(0);
        Check.due("the first one", first.loosen(), 0);
        x.tie(3);
        Check.due("of like ones the first", x.loosen(), 3);
        CordLoft y = Lofts.four();
        y.tie(0);
        y.tie(3);
        Check.due("w gives more than x", y.loosen(), 3);
        CordLoft nothing = Check.with(ALIKE);
        nothing.tie(5);
        Check.due("one that gives no more", nothing.loosen(), 5);
        Sentence.of(37, "NONE if none is TIED.");
        Check.due("none", Lofts.eight().loosen(), NONE);
        Check.due("no cords", new CordLoft().loosen(), NONE);
        nothing.loose(5);
        Check.due("loosed", nothing.loosen(), NONE);
        boldest();
        Sentence.of(39, "The FREE CORD that costs most; of like ones the first;");
        CordLoft dear = Check.with("lamp a;cord x turns a costs 0;cord y turns a costs 20;cord z turns a costs 20;");
        Check.due("y, not z", dear.dearest(), 1);
        dear.tie(1);
        Check.due("a free one", dear.dearest(), 2);
        dear.tie(2);
        Check.due("one that costs 0", dear.dearest(), 0);
        Sentence.of(39, "NONE if there is none.");
        dear.tie(0);
        Check.due("none is free", dear.dearest(), NONE);
        Check.due("no cords", new CordLoft().dearest(), NONE);
        Sentence.of(40, "FREE CORDS that turn an odd number of LAMPS, as bits.");
        CordLoft odd = Check.with(Lofts.EIGHT_LAMPS + "cord a turns a;cord b turns a b;cord c turns a b c;"
                + "cord d turns a b c d;cord e turns a b c d e;cord f turns a b c d e f;cord g turns a b c d e f g;"
                + "cord h turns a b c d e f g h;");
        Check.due("one, three, five, seven", odd.odd(), 85);
        odd.tie(0);
        odd.tie(6);
        Check.due("free ones", odd.odd(), 20);
        Check.due("all eight", Lofts.eight().odd(), 255);
        Check.due("no cords", new CordLoft().odd(), 0);
        Sentence.of(45, "The CORD of the most LAMPS; of like ones the first;");
        Check.due("all eight lamps", odd.longest(), 7);
        odd.tie(7);
        Check.due("tied or not", odd.longest(), 7);
        Check.due("the first of eight", Lofts.eight().longest(), 0);
        Sentence.of(45, "NONE without CORDS.");
        Check.due("no cords", Check.with(Lofts.EIGHT_LAMPS).longest(), NONE);
        Check.due("one cord", Check.with("lamp a;cord x turns a;").longest(), 0);
    }

    private static void boldest() {
        Sentence.of(38, "The FREE CORD by whose being pulled now (least does not matter) most LAMPS would be LIT; of like"
                + " ones the first: what 0: it, 1: how many;");
        CordLoft seven = Check.with(Lofts.EIGHT.replaceAll("lamp ([b-h]);", "lamp $1 lit;"));
        Check.due("all eight would be", seven.boldest(1), 8);
        Check.due("by the first", seven.boldest(0), 0);
        seven.tie(0);
        Check.due("a free one", seven.boldest(0), 1);
        Check.due("six", seven.boldest(1), 6);
        Check.due("to the dark", Check.with("lamp a lit;cord x turns a;least 1;").boldest(1), 0);
        Check.due("of like ones the first", Lofts.eight().boldest(0), 0);
        CordLoft out = Check.with("lamp a lit;lamp b lit;lamp c;cord x turns a b c;cord y turns a c;");
        Check.due("what goes out counts: y", out.boldest(0), 1);
        Check.due("two", out.boldest(1), 2);
        Sentence.of(38, "NONE if there is none, or for another what.");
        for (int cord = 1; cord < 8; cord++) {
            seven.tie(cord);
        }
        Check.none("boldest when none is free", seven::boldest, 0, 1);
        Check.none("boldest of no cords", new CordLoft()::boldest, 0, 1);
        Check.none("boldest", Lofts.four()::boldest, NEITHER_0_NOR_1);
    }

    private static void lamps() {
        Sentence.of(41, "LAMPS that are turned by just the same FREE CORDS as a LAMP (not itself), as bits;");
        CordLoft x = Check.with(Lofts.EIGHT_LAMPS + "cord x turns a b;cord y turns a b c h;cord z turns h;");
        Check.due("b", x.alike(0), 2);
        Check.due("a", x.alike(1), 1);
        Check.due("none", x.alike(2), 0);
        Check.due("those turned by none", x.alike(3), 112);
        x.tie(0);
        x.tie(2);
        Check.due("by free ones", x.alike(7), 7);
        Check.due("all the others", Check.with(Lofts.EIGHT_LAMPS).alike(7), 127);
        Sentence.of(41, "NONE if there is none such.");
        Check.none("alike", x::alike, LOW, -2, -1, 8, 9, 32, FAR);
        Check.none("alike of no lamps", new CordLoft()::alike, 0);
        Sentence.of(42, "LAMPS that no FREE CORD turns, as bits.");
        Check.due("all", Check.with(Lofts.EIGHT_LAMPS).alone(), 255);
        Check.due("none", Lofts.eight().alone(), 0);
        Check.due("d to g", x.alone(), 120);
        x.tie(1);
        Check.due("none is free", x.alone(), 255);
        Check.due("no lamps", new CordLoft().alone(), 0);
        Sentence.of(43, "How many LAMPS are LIT.");
        Check.due("none", Lofts.eight().burning(), 0);
        Check.due("all eight", Check.with(Lofts.EIGHT_LAMPS.replace(";", " lit;")).burning(), 8);
        Check.due("no lamps", new CordLoft().burning(), 0);
        Sentence.of(44, "Watts of all LIT LAMPS together.");
        Check.due("eight of 99", Check.with(Lofts.EIGHT_LAMPS.replace(";", " lit watts 99;")).load(), 792);
        Check.due("none is lit", Check.with(Lofts.EIGHT_LAMPS.replace(";", " watts 99;")).load(), 0);
        Check.due("0 watts", Check.with("lamp a lit watts 0;lamp b lit;").load(), 1);
        Check.due("no lamps", new CordLoft().load(), 0);
    }

    private static void law() {
        Sentence.of(46, "How many LAMPS would be LIT, were each FREE CORD that costs n (0 .. 20) at most pulled once now;");
        CordLoft x = Check.with("lamp a;lamp b;lamp c;lamp d lit;cord x turns a costs 0;cord y turns b costs 20;"
                + "cord z turns c d costs 19;");
        Check.due("those that cost 0", x.law(0), 2);
        Check.due("at most 18", x.law(18), 2);
        // c burns for d
        Check.due("at most 19", x.law(19), 2);
        Check.due("at most 20", x.law(20), 3);
        x.tie(0);
        Check.due("free ones", x.law(0), 1);
        Check.due("eight", Lofts.eight().law(1), 8);
        Check.due("none of eight", Lofts.eight().law(0), 0);
        Check.due("no lamps", new CordLoft().law(20), 0);
        Sentence.of(46, "NONE for another n.");
        Check.none("law", x::law, LOW, -2, -1, 21, 22, 99, FAR);
        Check.none("law of a new object", new CordLoft()::law, -1, 21);
    }

    private static void odds() {
        Sentence.of(Sentence.TERMS, "ODDS: that there is no gust in n DUSKS, whatever the SEED is.");
        for (int draw : new int[] {0, 17, 44, 999}) {
            CordLoft seeded = Check.with("lamp a;gusts 36;draw " + draw + ";");
            Check.due("16 of 25", seeded.odds(1, 0) * 1000 + seeded.odds(1, 1), 16025);
            seeded.dusk();
            Check.due("16 of 25", seeded.odds(1, 0) * 1000 + seeded.odds(1, 1), 16025);
        }
        Sentence.of(47, "ODDS (n 0 .. 4) the upper part (0), the lower part (1), in lowest terms (0 of 1);");
        odds(0, new int[] {1, 1, 1, 1, 1}, new int[] {1, 1, 1, 1, 1});
        odds(50, new int[] {1, 1, 1, 1, 1}, new int[] {1, 2, 4, 8, 16});
        odds(99, new int[] {1, 1, 1, 1, 1}, new int[] {1, 100, 10000, 1000000, 100000000});
        odds(1, new int[] {1, 99, 9801, 970299, 96059601}, new int[] {1, 100, 10000, 1000000, 100000000});
        odds(100, new int[] {1, 0, 0, 0, 0}, new int[] {1, 1, 1, 1, 1});
        odds(36, new int[] {1, 16, 256, 4096, 65536}, new int[] {1, 25, 625, 15625, 390625});
        Sentence.of(47, "NONE if one can't be.");
        CordLoft x = Check.with("lamp a;gusts 36;");
        Check.none("odds(n, 0)", n -> x.odds(n, 0), LOW, -2, -1, 5, 6, FAR);
        Check.none("odds(n, 1)", n -> x.odds(n, 1), LOW, -1, 5, FAR);
        Check.none("odds(1, part)", part -> x.odds(1, part), NEITHER_0_NOR_1);
        Check.none("odds(0, part)", part -> x.odds(0, part), -1, 2);
    }

    private static void odds(int gusts, int[] upper, int[] lower) {
        CordLoft x = Check.with("lamp a;gusts " + gusts + ";");
        for (int n = 0; n <= 4; n++) {
            Check.due("odds(" + n + ", 0) of gusts " + gusts, x.odds(n, 0), upper[n]);
            Check.due("odds(" + n + ", 1) of gusts " + gusts, x.odds(n, 1), lower[n]);
        }
    }
}
