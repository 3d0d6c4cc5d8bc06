import java.util.function.Supplier;

/** Boundary cases of what changes a loft: pulls, ties, dusks with their formula and gusts, undo, boxes. */
final class ActBoundaries {
    private static final int NONE = CordLoft.NONE;
    private static final int FAR = Integer.MAX_VALUE;
    private static final int LOW = Integer.MIN_VALUE;
    private static final int[] NO_CORD_OF_FOUR = {LOW, -257, -2, -1, 4, 5, 8, 32, 256, FAR};
    // the greatest power that wraps: the least int
    private static final String LEAST_INT = "2048*1024*1024";

    private ActBoundaries() {
    }

    static void test() {
        atFirst();
        turning();
        pulls();
        tiesAndLooses();
        dusks();
        gusts();
        dusksAtMost();
        acts();
        undoAndRedo();
        will();
        boxes();
    }

    private static void atFirst() {
        Sentence.of(Sentence.TERMS, "A LAMP is LIT or not (as told, at first).");
        CordLoft x = Check.with("lamp a lit;lamp b;lamp c lit;");
        Check.due("told lit", x.lamp(0, 0), 1);
        Check.due("not told lit", x.lamp(1, 0), 0);
        Sentence.of(Sentence.TERMS, "A PICTURE tells which LAMPS are LIT, as bits.");
        Check.due("a and c", x.picture(), 5);
        Sentence.of(8, "The PICTURE.");
        Check.due("no lamps", new CordLoft().picture(), 0);
        Check.due("none of eight", Check.with(Lofts.EIGHT_LAMPS).picture(), 0);
        Check.due("all eight", Check.with(Lofts.EIGHT_LAMPS.replace(";", " lit;")).picture(), 255);
        Check.due("the last of eight", Check.with(Lofts.EIGHT_LAMPS.replace("h;", "h lit;")).picture(), 128);
        Sentence.of(Sentence.TERMS, "A CORD is TIED or not (not, at first).");
        for (int cord = 0; cord < 8; cord++) {
            Check.due("tied at first", Lofts.eight().cord(cord, 2), 0);
        }
        Check.due("all at first", Lofts.eight().about(2), 0);
    }

    private static void turning() {
        Sentence.of(Sentence.TERMS, "It TURNS its LAMPS: each that is LIT is not then, each that is not is.");
        CordLoft x = Check.with("lamp a lit;lamp b;lamp c lit;lamp d;cord x turns a b;");
        Check.due("a goes out, b burns, c and d stay", x.pull(0), 6);
        Check.due("and again", x.pull(0), 5);
        Sentence.of(Sentence.TERMS, "A PULL of a CORD that is not TIED: it TURNS its LAMPS, what it costs is SPENT"
                + " (0 at first).");
        CordLoft y = Check.with("lamp a;cord x turns a costs 0;cord y turns a costs 20;cord z turns a;");
        Check.due("at first", y.about(3), 0);
        y.pull(0);
        Check.due("by one that costs 0", y.about(3), 0);
        y.pull(1);
        Check.due("by one that costs 20", y.about(3), 20);
        y.pull(2);
        y.pull(1);
        Check.due("by all", y.about(3), 41);
    }

    private static void pulls() {
        Sentence.of(9, "A PULL: the PICTURE then;");
        Check.due("the first cord", Lofts.eight().pull(0), 1);
        Check.due("the last cord", Lofts.eight().pull(7), 128);
        Check.due("to the dark", Check.with("lamp a lit;cord c turns a;").pull(0), 0);
        Sentence.of(9, "NONE, doing nothing, if it is TIED");
        Check.refused("pull(2)", Lofts::livedIn, x -> x.pull(2));
        CordLoft loosed = Lofts.four();
        loosed.tie(0);
        Check.due("tied", loosed.pull(0), NONE);
        Check.due("another one is not", loosed.pull(1), 3);
        loosed.loose(0);
        Check.due("not tied any more", loosed.pull(0), 0);
        Sentence.of(9, "fewer LAMPS would be LIT than least tells");
        leastOfPulls();
        Sentence.of(9, "or there is none such.");
        Check.none("pull", Lofts.four()::pull, NO_CORD_OF_FOUR);
        Check.none("pull among eight", Lofts.eight()::pull, -1, 8);
        Check.none("pull in an empty loft", new CordLoft()::pull, 0);
        for (int cord : NO_CORD_OF_FOUR) {
            Check.refused("pull(" + cord + ")", Lofts::livedIn, x -> x.pull(cord));
        }
        Sentence.of(9, "(An ACT.)");
        CordLoft x = Lofts.four();
        x.pull(0);
        Check.due("one to undo", x.about(6), 1);
        Check.due("undone", x.undo(), true);
        Check.due("the picture", x.picture(), 5);
        Check.due("nothing is spent", x.about(3), 0);
    }

    private static void leastOfPulls() {
        Supplier<CordLoft> three = () -> {
            CordLoft x = Check.with("lamp a lit;lamp b lit;lamp c lit;lamp d;cord x turns a;cord y turns b;"
                    + "cord z turns a b d;least 2;");
            x.pull(1);
            x.pull(1);
            x.undo();
            x.undo();
            return x;
        };
        Check.due("just as many as least", three.get().pull(0), 6);
        Check.due("one moves", three.get().pull(2), 12);
        Check.refused("one fewer than least", () -> pulled(three.get(), 0), x -> x.pull(1));
        // brighter, but still below least
        Check.refused("from none to one", () -> Check.with("lamp a;lamp b;cord x turns a;least 2;"), x -> x.pull(0));
        Check.due("from none to two", Check.with("lamp a;lamp b;cord x turns a b;least 2;").pull(0), 3);
        Check.due("least 0", Check.with("lamp a lit;cord x turns a;least 0;").pull(0), 0);
        Check.due("least 8", Check.with(Lofts.EIGHT.replaceAll("lamp ([b-h]);", "lamp $1 lit;") + "least 8;").pull(0), 255);
        Check.refused("seven of eight", () -> Check.with(Lofts.EIGHT.replaceAll("lamp ([a-h]);", "lamp $1 lit;")
                + "least 8;"), x -> x.pull(0));
        // more than there are lamps: never
        Check.refused("three of two", () -> Check.with("lamp a;lamp b lit;cord x turns a;least 3;"), x -> x.pull(0));
    }

    private static CordLoft pulled(CordLoft x, int cord) {
        x.pull(cord);
        return x;
    }

    private static void tiesAndLooses() {
        Sentence.of(10, "A CORD is TIED: all that are, as bits, then;");
        CordLoft x = Lofts.eight();
        Check.due("the first", x.tie(0), 1);
        Check.due("the last", x.tie(7), 129);
        Check.due("each", x.tie(3), 137);
        Check.due("told of it", x.cord(3, 2), 1);
        Sentence.of(10, "NONE, doing nothing, if it is, or there is none such.");
        Check.refused("tie(2), tied already", Lofts::livedIn, y -> y.tie(2));
        for (int cord : NO_CORD_OF_FOUR) {
            Check.refused("tie(" + cord + ")", Lofts::livedIn, y -> y.tie(cord));
        }
        Check.none("tie among eight", x::tie, -1, 8);
        Check.none("tie in an empty loft", new CordLoft()::tie, 0);
        Sentence.of(10, "(An ACT.)");
        Check.due("three to undo", x.about(6), 3);
        x.undo();
        Check.due("undone", x.about(2), 129);
        x.redo();
        Sentence.of(11, "It is loosed: likewise;");
        Check.due("the last", x.loose(7), 9);
        Check.due("the first", x.loose(0), 8);
        Check.due("the only one", x.loose(3), 0);
        Check.due("told of it", x.cord(3, 2), 0);
        Sentence.of(11, "NONE, doing nothing, if it is not TIED, or there is none such.");
        Check.refused("loose(0), not tied", Lofts::livedIn, y -> y.loose(0));
        for (int cord : NO_CORD_OF_FOUR) {
            Check.refused("loose(" + cord + ")", Lofts::livedIn, y -> y.loose(cord));
        }
        Check.none("loose among eight", x::loose, -1, 8);
        Check.none("loose in an empty loft", new CordLoft()::loose, 0);
        Sentence.of(11, "(An ACT.)");
        Check.due("six to undo", x.about(6), 6);
        x.undo();
        Check.due("undone", x.about(2), 8);
    }

    private static void dusks() {
        Sentence.of(Sentence.TERMS, "A DUSK: LAMP by LAMP, by what was so ahead of it all:");
        CordLoft row = Check.with("lamp a lit;lamp b;lamp c;next a b;next b c;dusk near;");
        Check.due("b is not seen to burn by c", row.dusk(), 3);
        Check.due("a and b both turn each other and c", row.dusk(), 4);
        Sentence.of(Sentence.TERMS, "dusk (0, if it is not told)");
        Check.due("not told", Check.with("lamp a lit;lamp b;").dusk(), 1);
        units();
        arithmetic();
        Sentence.of(Sentence.TERMS, "of what is not 0) is above 0.");
        turns("0", false);
        turns("1", true);
        turns("0-1", false);
        turns("9999", true);
        turns(LEAST_INT, false);
        turns(LEAST_INT + "-1", true);
        Sentence.of(Sentence.TERMS, "The night goes up by 1.");
        CordLoft x = new CordLoft();
        for (int night = 0; night < 3; night++) {
            Check.due("nights", x.about(4), night);
            x.dusk();
        }
        Sentence.of(12, "A DUSK: the PICTURE then;");
        Check.due("no lamps", x.dusk(), 0);
        Check.due("all eight", Check.with(Lofts.EIGHT_LAMPS + "dusk 1;").dusk(), 255);
        Check.due("least does not hold it", Check.with("lamp a lit;dusk 1;least 1;").dusk(), 0);
        Sentence.of(12, "(An ACT.)");
        Check.due("four to undo", x.about(6), 4);
        x.undo();
        Check.due("undone", x.about(4), 3);
    }

    private static void units() {
        Sentence.of(Sentence.TERMS, "by lit (1 if it is LIT, else 0), near (how many LIT LAMPS hang next to it)");
        Check.due("lit", Check.with("lamp a lit;lamp b;dusk lit=1;").dusk(), 0);
        Check.due("not lit", Check.with("lamp a lit;lamp b;dusk lit=0;").dusk(), 3);
        String star = "lamp a;lamp b;lamp c lit;lamp d lit;lamp e lit;lamp f lit;lamp g lit;lamp h lit;"
                + "next a b;next a c;next d a;next a e;next a f;next g a;next a h;";
        Check.due("six of seven burn next to a", Check.with(star + "dusk near=6;").dusk(), 253);
        Check.due("all seven", Check.with(star.replace("b;lamp", "b lit;lamp") + "dusk near=7;").dusk(), 255);
        Check.due("none", Check.with(star + "dusk near=0;").dusk(), 2);
        Sentence.of(Sentence.TERMS, "cords (how many CORDS turn it, TIED or not), number (its number, 0 ..), watts (its)");
        String cords = "lamp a;lamp b;cord a turns a;cord b turns a;cord c turns a;cord d turns a;"
                + "cord e turns a;cord f turns a;cord g turns a;cord h turns a;";
        CordLoft x = Check.with(cords + "dusk cords=8 or cords=0 and night;");
        Check.due("eight", x.dusk(), 1);
        x.tie(0);
        x.tie(7);
        Check.due("eight, and none", x.dusk(), 2);
        Check.due("number 0", Check.with(Lofts.EIGHT_LAMPS + "dusk number=0;").dusk(), 1);
        Check.due("number 7", Check.with(Lofts.EIGHT_LAMPS + "dusk number=7;").dusk(), 128);
        Check.due("watts 0 and 99", Check.with("lamp a watts 0;lamp b;lamp c watts 99;dusk watts=0 or watts=99;").dusk(), 5);
        Check.due("watts if not told", Check.with("lamp a watts 0;lamp b;lamp c watts 99;dusk watts=1;").dusk(), 2);
        Sentence.of(Sentence.TERMS, "night (how many DUSKS there were; 0 at first;");
        CordLoft night = Check.with("lamp a;dusk night;");
        Check.due("0 at first", night.dusk(), 0);
        Check.due("1 then", night.dusk(), 1);
        night = Check.with("lamp a;dusk night=2;");
        Check.due("not at 0", night.dusk(), 0);
        Check.due("not at 1", night.dusk(), 0);
        Check.due("at 2", night.dusk(), 1);
        Check.due("not at 3", night.dusk(), 1);
    }

    private static void arithmetic() {
        Sentence.of(Sentence.TERMS, "ints, wrapping;");
        turns(LEAST_INT + "<0", true);
        turns(LEAST_INT + "-1>0", true);
        turns("(" + LEAST_INT + "-1)+1<0", true);
        turns("(" + LEAST_INT + "-1)+1=" + LEAST_INT, true);
        turns("0-" + LEAST_INT + "=" + LEAST_INT, true);
        turns("4096*1024*1024=0", true);
        // 9999 * 9999 * 100 is 9998000100, less twice 2^32
        turns("9999*9999*100=1408*1000*1000+65*1000+508", true);
        turns(LEAST_INT + "/(0-1)=" + LEAST_INT, true);
        turns(LEAST_INT + "%(0-1)=0", true);
        // a relation is not told by a difference that wraps
        turns(LEAST_INT + "<1", true);
        turns(LEAST_INT + "-1>0-1", true);
        Sentence.of(Sentence.TERMS, "sum = term {(+ | -) term}. term = unit {(* | / | %) unit}.");
        // from the left
        turns("20-5-5=10", true);
        turns("20-5+5=20", true);
        turns("40/4/5=2", true);
        turns("20/4*5=25", true);
        turns("17%10*2=14", true);
        turns("2+3*4=14", true);
        turns("2*3+4=10", true);
        Sentence.of(Sentence.TERMS, "/ cut, % its rest, both by 0: 0;");
        turns("7/2=3", true);
        turns("(0-7)/2=0-3", true);
        turns("7/(0-2)=0-3", true);
        turns("1/2=0", true);
        turns("(0-1)/2=0", true);
        turns("7%2=1", true);
        turns("(0-7)%2=0-1", true);
        turns("7%(0-2)=1", true);
        turns("(0-7)%(0-2)=0-1", true);
        turns("5/0=0", true);
        turns("5%0=0", true);
        turns("0/0=0", true);
        turns("0%0=0", true);
        turns("(0-5)/(3-3)=0", true);
        turns(LEAST_INT + "/0=0", true);
        Sentence.of(Sentence.TERMS, "relations, and, or, not are 1 or 0, of what is not 0)");
        turns("(2<3)=1", true);
        turns("(3<3)=0", true);
        turns("(3>3)=0", true);
        turns("(3>2)=1", true);
        turns("(3=3)=1", true);
        turns("(3=2)=0", true);
        turns("(2 and 4)=1", true);
        turns("(1 and 0)=0", true);
        turns("(0 and 1)=0", true);
        turns("(2 or 4)=1", true);
        turns("(0 or 0)=0", true);
        turns("(0 or 7)=1", true);
        turns("(not 0)=1", true);
        turns("(not 2)=0", true);
        turns("((0-1) and (0-1))=1", true);
        turns("((0-1) or 0)=1", true);
        turns("(not (0-1))=0", true);
        turns("(not not 9)=1", true);
    }

    private static void turns(String rule, boolean is) {
        Check.due("dusk " + rule, Check.with("lamp a;dusk " + rule + ";").dusk(), is ? 1 : 0);
    }

    private static void gusts() {
        Sentence.of(Sentence.TERMS, "Then the SEED (draw, at first) becomes its 137-fold and 71 more, modulo 1,000");
        int[][] seeds = {{0, 71}, {6, 893}, {7, 30}, {17, 400}, {44, 99}, {999, 934}};
        for (int[] seed : seeds) {
            CordLoft x = Check.with("draw " + seed[0] + ";");
            Check.due("at first", x.about(5), seed[0]);
            x.dusk();
            Check.due("behind a dusk", x.about(5), seed[1]);
        }
        Sentence.of(Sentence.TERMS, "if its rest by 100 is less than gusts tells");
        String three = "lamp a;lamp b;lamp c;";
        // 400: its rest is 0, and 400 modulo 3 is 1
        Check.due("0 is not below 0", Check.with(three + "draw 17;").dusk(), 0);
        Check.due("0 is below 1", Check.with(three + "draw 17;gusts 1;").dusk(), 2);
        // 99, and 99 modulo 3 is 0
        Check.due("99 is not below 99", Check.with(three + "draw 44;gusts 99;").dusk(), 0);
        Check.due("99 is below 100", Check.with(three + "draw 44;gusts 100;").dusk(), 1);
        // 934: its rest is 34, and 934 modulo 3 is 1
        Check.due("34 is not below 34", Check.with(three + "draw 999;gusts 34;").dusk(), 0);
        Check.due("34 is below 35", Check.with(three + "draw 999;gusts 35;").dusk(), 2);
        Sentence.of(Sentence.TERMS, "and there are LAMPS");
        Check.due("a gust in an empty loft", Check.with("gusts 100;").dusk(), 0);
        Sentence.of(Sentence.TERMS, "the LAMP whose number is the SEED modulo how many there are is TURNED.");
        int[] turned = {0, 1, 2, 3, 1, 5, 1, 7};
        for (int lamps = 1; lamps <= 8; lamps++) {
            String text = Lofts.EIGHT_LAMPS.substring(0, 7 * lamps) + "gusts 100;";
            Check.due("71 modulo " + lamps, Check.with(text).dusk(), 1 << turned[lamps - 1]);
        }
        Check.due("one that burns", Check.with("lamp a lit;gusts 100;").dusk(), 0);
        Check.due("behind what it did of itself", Check.with("lamp a;dusk not lit;gusts 100;").dusk(), 0);
    }

    /** No object is promised to take so many calls; the words hold all the same. */
    private static void dusksAtMost() {
        Sentence.of(12, "NONE, doing nothing, behind 999 of them.");
        CordLoft x = nights(998);
        Check.due("the 999th", x.dusk(), 1);
        Check.due("night", x.about(4), 999);
        Check.refused("the 1,000th", () -> nights(999), CordLoft::dusk);
        x.undo();
        Check.due("the 999th once more", x.dusk(), 1);
        Sentence.of(15, "beyond night 999, too)");
        CordLoft y = nights(999);
        Check.due("1,000", y.will(1, 0), 0);
        Check.due("1,001", y.will(2, 0), 1);
        Check.due("1,059", y.will(60, 1), 1);
        Check.due("night 1,000 is told so", behindNights("dusk night=1000;", 999).will(2, 0), 1);
        Check.due("night 1,000 is told so", behindNights("dusk night=1000;", 999).will(1, 0), 0);
    }

    private static CordLoft nights(int n) {
        return behindNights("dusk 1;", n);
    }

    private static CordLoft behindNights(String rule, int nights) {
        CordLoft x = Check.with("lamp a;cord c turns a;" + rule);
        for (int i = 0; i < nights; i++) {
            x.dusk();
        }
        return x;
    }

    private static void acts() {
        Sentence.of(Sentence.TERMS, "ACTS: a PULL (if no fewer LAMPS are LIT behind it than least tells);"
                + " a CORD is TIED, or loosed; a DUSK.");
        CordLoft x = Check.with("lamp a lit;lamp b;cord c turns b;cord d turns a;least 1;dusk 1;");
        Check.due("at first", x.about(6), 0);
        x.pull(0);
        Check.due("a pull", x.about(6), 1);
        x.tie(0);
        Check.due("a tie", x.about(6), 2);
        x.loose(0);
        Check.due("a loosing", x.about(6), 3);
        x.dusk();
        Check.due("a dusk", x.about(6), 4);
        Check.due("none: fewer would burn", x.pull(1) + x.pull(1), 1 + NONE);
        Check.due("so one more", x.about(6), 5);
        x.image(0);
        x.seen(0, true);
        x.later(1);
        x.steady(3);
        Check.due("none of these", x.about(6), 5);
        Sentence.of(Sentence.TERMS, "40 at most are kept, the oldest go.");
        for (int acts : new int[] {39, 40, 41, 42, 80, 81}) {
            keptOf(acts);
        }
    }

    /** All four sorts of acts by turns, then all that is kept is undone and redone. */
    private static void keptOf(int acts) {
        CordLoft x = Lofts.eight();
        int[] pictures = new int[acts + 1];
        for (int i = 0; i < acts; i++) {
            pictures[i] = x.picture() + 1000 * x.about(4) + 1000000 * x.about(2);
            act(x, i);
        }
        pictures[acts] = x.picture() + 1000 * x.about(4) + 1000000 * x.about(2);
        int kept = Math.min(acts, 40);
        Check.due("kept of " + acts, x.about(6), kept);
        for (int i = 1; i <= kept; i++) {
            Check.due("undo " + i + " of " + acts, x.undo(), true);
            Check.due("as it was", x.picture() + 1000 * x.about(4) + 1000000 * x.about(2), pictures[acts - i]);
        }
        Check.due("the oldest of " + acts, x.undo(), false);
        Check.due("to redo of " + acts, x.about(7), kept);
        for (int i = 1; i <= kept; i++) {
            Check.due("redo " + i + " of " + acts, x.redo(), true);
            Check.due("as it was", x.picture() + 1000 * x.about(4) + 1000000 * x.about(2), pictures[acts - kept + i]);
        }
        Check.due("no more", x.redo(), false);
        Check.due("kept still", x.about(6), kept);
    }

    private static void act(CordLoft x, int i) {
        int cord = i / 4 % 8;
        int done = i % 4 == 0 ? x.pull(cord) : i % 4 == 1 ? x.tie(cord) : i % 4 == 2 ? x.dusk() : x.loose(cord);
        Check.due("an act", done >= 0, true);
    }

    private static void undoAndRedo() {
        Sentence.of(Sentence.TERMS, "UNDO takes back the latest ACT that was not, REDO does that again which was taken"
                + " back last (till another ACT);");
        CordLoft x = Lofts.eight();
        x.pull(0);
        x.pull(1);
        x.pull(2);
        x.undo();
        x.undo();
        Check.due("the first is left", x.picture(), 1);
        x.redo();
        Check.due("the second comes first", x.picture(), 3);
        x.undo();
        x.undo();
        Check.due("none is left", x.picture(), 0);
        x.redo();
        x.redo();
        x.redo();
        Check.due("all three", x.picture(), 7);
        x.undo();
        x.undo();
        Check.due("refused acts are none", x.pull(8) + x.loose(0) + x.tie(-1), 3 * NONE);
        x.image(0);
        x.will(3, 1);
        x.steady(200);
        Check.due("two to redo still", x.about(7), 2);
        x.tie(5);
        Check.due("none behind another act", x.about(7), 0);
        Sentence.of(13, "UNDO: true;");
        Check.due("the tie", x.undo(), true);
        Check.due("it is loosed", x.about(2), 0);
        Check.due("the pull", x.undo(), true);
        Sentence.of(13, "false if there is none.");
        Check.due("none", x.undo(), false);
        Check.due("nothing was done", x.picture() + x.about(6), 0);
        Check.due("two to redo", x.about(7), 2);
        Check.due("a new object", new CordLoft().undo(), false);
        CordLoft loft = Check.with(Lofts.SINGLE);
        Check.due("a loft is no act", loft.undo(), false);
        Check.due("as told", loft.picture(), 3);
        Sentence.of(14, "REDO: true;");
        Check.due("the pull", x.redo(), true);
        Check.due("it burns", x.picture(), 1);
        Check.due("the tie", x.redo(), true);
        Sentence.of(14, "false if there is none.");
        Check.due("none", x.redo(), false);
        Check.due("nothing was done", x.picture() + x.about(2), 33);
        Check.due("a new object", new CordLoft().redo(), false);
        x.undo();
        x.undo();
        x.pull(7);
        Check.due("none behind another act", x.redo(), false);
        Check.due("nothing was done", x.picture(), 128);
    }

    private static void will() {
        Sentence.of(15, "The PICTURE behind n DUSKS (0 .. 60;");
        CordLoft x = Check.with("lamp a;lamp b lit;dusk night=59 or night=0 and number;");
        Check.due("behind none", x.will(0, 0), 2);
        Check.due("behind one", x.will(1, 0), 0);
        Check.due("behind 59", x.will(59, 0), 0);
        Check.due("behind 60", x.will(60, 0), 3);
        Check.none("will(n, 0)", n -> x.will(n, 0), LOW, -2, -1, 61, 62, 300, FAR);
        Check.none("will(n, 1)", n -> x.will(n, 1), LOW, -1, 61, FAR);
        Sentence.of(15, "gusts as the SEED tells (what 1), none (0);");
        // 400 and 871: only the first has a rest below 1
        CordLoft y = Check.with("lamp a;lamp b;lamp c;gusts 1;draw 17;");
        Check.due("with a gust", y.will(1, 1), 2);
        Check.due("without", y.will(1, 0), 0);
        Check.due("behind none", y.will(0, 1), 0);
        Check.due("behind two", y.will(2, 1), 2);
        Check.due("no lamps", Check.with("gusts 100;").will(60, 1), 0);
        Sentence.of(15, "NONE if one can't be.");
        Check.none("will(1, what)", what -> y.will(1, what), LOW, -2, -1, 2, 3, FAR);
        Check.none("will(0, what)", what -> y.will(0, what), -1, 2);
        Check.refused("will(61, 0)", Lofts::livedIn, z -> z.will(61, 0));
        Check.refused("will(1, 2)", Lofts::livedIn, z -> z.will(1, 2));
    }

    private static void boxes() {
        Sentence.of(56, "The PICTURE, what is TIED, SPENT, the night, the SEED are kept in a BOX 0 .. 2: the PICTURE;");
        // x pulled, then another one tied, then d turned at dusk, three times over
        CordLoft x = Check.with(Lofts.FOUR + "draw 9;dusk number=3;");
        int[][] kept = {{14, 1, 3, 1, 304}, {5, 2, 6, 2, 719}, {14, 6, 9, 3, 574}};
        for (int box = 0; box < 3; box++) {
            x.pull(0);
            x.tie(box);
            x.dusk();
            Check.due("image(" + box + ")", x.image(box), kept[box][0]);
            x.loose(0);
        }
        Sentence.of(57, "All is as it was kept (no ACTS are kept then): the PICTURE;");
        for (int box : new int[] {1, 2, 0, 2}) {
            x.pull(3);
            x.pull(3);
            x.undo();
            Check.due("back(" + box + ")", x.back(box), kept[box][0]);
            for (int what = 2; what <= 5; what++) {
                Check.due("about(" + what + ")", x.about(what), kept[box][what - 1]);
            }
            Check.due("undo", x.undo(), false);
            Check.due("redo", x.redo(), false);
            Check.due("acts", x.about(6) + x.about(7), 0);
        }
        boxesOneByOne();
        actsBehindBack();
        Sentence.of(56, "NONE if there is none such.");
        Check.none("image", x::image, LOW, -2, -1, 3, 4, 32, 256, FAR);
        for (int box : new int[] {LOW, -1, 3, 32, FAR}) {
            Check.refused("image(" + box + ")", Lofts::livedIn, y -> y.image(box));
        }
        Sentence.of(57, "NONE, doing nothing, if nothing was.");
        Check.none("back of a new object", new CordLoft()::back, LOW, -1, 0, 1, 2, 3, FAR);
        for (int box : new int[] {LOW, -1, 1, 3, 32, 33, FAR}) {
            Check.refused("back(" + box + ")", Lofts::livedIn, y -> y.back(box));
        }
    }

    /** More acts behind back() than there were ahead of it: they are undone down to what was kept, and no further. */
    private static void actsBehindBack() {
        CordLoft x = Lofts.eight();
        x.pull(7);
        x.image(0);
        for (int cord = 0; cord < 4; cord++) {
            x.pull(cord);
        }
        x.back(0);
        for (int cord = 0; cord < 7; cord++) {
            Check.due("pulled behind back(0)", x.pull(cord), 127 + (2 << cord));
        }
        for (int cord = 6; cord >= 0; cord--) {
            Check.due("undo", x.undo(), true);
            Check.due("picture", x.picture(), 127 + (1 << cord));
        }
        Check.due("no further", x.undo(), false);
        Check.due("kept", x.back(0), 128);
    }

    private static void boxesOneByOne() {
        CordLoft x = Lofts.livedIn();
        int picture = x.picture();
        int tied = x.about(2);
        int spent = x.about(3);
        int night = x.about(4);
        int seed = x.about(5);
        Check.due("kept", x.image(1), picture);
        x.pull(0);
        x.tie(1);
        x.dusk();
        Check.due("as it was kept", x.back(1), picture);
        Check.due("the picture", x.picture(), picture);
        Check.due("tied", x.about(2), tied);
        Check.due("spent", x.about(3), spent);
        Check.due("night", x.about(4), night);
        Check.due("seed", x.about(5), seed);
        Check.due("what is seen stays", x.about(8), 2);
        Check.due("the time stays", x.about(9), 5);
        Check.due("the tape stays", x.about(10), 18);
        Check.due("what lies there stays", x.about(12) > 0, true);
        x.pull(0);
        Check.due("a box is not emptied", x.back(1), picture);
        Check.due("nor changed by pulls behind it", x.about(3), spent);
        x.pull(0);
        x.image(1);
        x.pull(3);
        Check.due("kept anew", x.back(1), picture ^ 3);
        Check.due("the others stay", x.back(0), 5);
    }
}
