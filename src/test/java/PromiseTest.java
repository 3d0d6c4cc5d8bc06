/** Each promise by worked answers: ordinary inputs, the edges that the document names, wrong inputs. */
public final class PromiseTest {
    private static final int NONE = CordLoft.NONE;
    private static final int FAR = Integer.MAX_VALUE;
    private static final int LOW = Integer.MIN_VALUE;

    private static final String FOUR = Lofts.FOUR;
    private static final String SINGLE = Lofts.SINGLE;

    public static void main(String[] args) {
        newObject();
        tape();
        loftAndFault();
        lampAndCord();
        acts();
        dusks();
        undoAndRedo();
        will();
        canBe();
        cheapest();
        silentAndSpare();
        bestPictures();
        apartAndMark();
        steady();
        game();
        againPastsStill();
        knotMoreExchange();
        cordsNamed();
        lampsNamed();
        lawAndOdds();
        sight();
        ask();
        boxes();
        about();
        wildArguments();
        Check.end("PromiseTest");
    }

    private static void due(String what, long got, long want) {
        Check.due(what, got, want);
    }

    private static void due(String what, boolean got, boolean want) {
        Check.due(what, got, want);
    }

    private static void newObject() {
        CordLoft x = new CordLoft();
        int[] want = {0, 0, 0, 0, 0, 0, 0, 0, 0, 0, 0, 0, 0, 0, 0};
        for (int what = 0; what < want.length; what++) {
            due("1: about(" + what + ")", x.about(what), want[what]);
        }
        due("1: picture()", x.picture(), 0);
        due("1: fault(0)", x.fault(0), 0);
        due("1: fault(1)", x.fault(1), NONE);
        due("1: undo()", x.undo(), false);
        due("1: redo()", x.redo(), false);
        due("1: back(0)", x.back(0), NONE);
        due("1: pull(0)", x.pull(0), NONE);
        due("1: fits(0)", x.fits(0), 1);
        due("1: ask(0, 0)", x.ask(0, 0), NONE);
        due("1: dusk()", x.dusk(), 0);
        due("1: about(5) behind a dusk", x.about(5), 71);
        due("1: odds(4, 0)", x.odds(4, 0), 1);
        due("1: odds(4, 1)", x.odds(4, 1), 1);
    }

    private static void tape() {
        CordLoft x = new CordLoft();
        for (int i = 1; i <= 80; i++) {
            due("2: feed " + i, x.feed(0x20202020, 0x20202020, 0x20202020, 0x20202020, 0x20202020), 20L * i);
        }
        due("2: feed beyond 1,600", x.feed(1, 2, 3, 4, 5), NONE);
        due("2: nothing came", x.about(10), 1600);
        due("3: end(1601)", x.end(1601), NONE);
        due("3: end(-1)", x.end(-1), NONE);
        due("3: end(1581)", x.end(1581), 1581);
        due("2: feed at 1,581", x.feed(1, 2, 3, 4, 5), NONE);
        due("3: end(1580)", x.end(1580), 1580);
        due("2: feed at 1,580", x.feed(0x20202020, 0x20202020, 0x20202020, 0x20202020, 0x20202020), 1600);
        due("4: loft() of 1,600 blanks", x.loft(), 0);
        due("4: the tape is empty then", x.about(10), 0);
        due("3: end(0)", x.end(0), 0);
        due("3: end(1)", x.end(1), NONE);
        // the highest byte of each number first: "lamp" "  ab" "   l" "it;l" "amp "
        x.feed(0x6c616d70, 0x20206162, 0x2020206c, 0x69743b6c, 0x616d7020);
        x.feed(0x633b0000, 0, 0, 0, -1);
        x.end(22);
        due("2: highest first", x.loft(), 2);
        due("2: picture", x.picture(), 1);
        x.feed(-1, 0, 0, 0, 0);
        due("2: a byte above 127 is no token", x.loft(), NONE);
        due("5: fault(0)", x.fault(0), 1);
        due("5: fault(1)", x.fault(1), 0);
    }

    private static void loftAndFault() {
        CordLoft x = Check.with("lamp a lit;lamp b;cord c turns a b costs 4;draw 7;");
        x.later(9);
        x.pull(0);
        x.tie(0);
        x.undo();
        x.dusk();
        x.seen(0, true);
        x.steady(2);
        x.image(1);
        due("4: loft()", Check.read(x, "lamp a lit;lamp b lit;cord c turns a;draw 8;"), 2);
        int[] want = {2, 1, 0, 0, 0, 8, 0, 0, 0, 9, 0, 0, 0, 0, 0};
        for (int what = 0; what < want.length; what++) {
            due("4: about(" + what + ") behind another loft", x.about(what), want[what]);
        }
        due("4: picture", x.picture(), 3);
        due("4: boxes are empty", x.back(1), NONE);
        due("4: nothing lies there", x.lies(0), NONE);
        x.steady(2);
        due("4: something lies there", x.about(12), 1);
        x.loft();
        due("4: nothing lies there now", x.about(12), 0);
        due("5: fault(2)", x.fault(2), NONE);
        due("5: fault(-1)", x.fault(-1), NONE);
    }

    private static void lampAndCord() {
        CordLoft x = Check.with(FOUR);
        int[][] lamps = {{1, 5, 5, 2}, {0, 3, 3, 5}, {1, 2, 14, 2}, {0, 1, 8, 0}};
        int[][] cords = {{3, 3, 0}, {6, 1, 0}, {5, 7, 0}, {12, 2, 0}};
        for (int i = 0; i < 4; i++) {
            for (int what = 0; what < 4; what++) {
                due("6: lamp(" + i + ", " + what + ")", x.lamp(i, what), lamps[i][what]);
            }
            for (int what = 0; what < 3; what++) {
                due("7: cord(" + i + ", " + what + ")", x.cord(i, what), cords[i][what]);
            }
        }
        x.tie(2);
        due("6: by cords, tied or not", x.lamp(2, 2), 14);
        due("7: tied", x.cord(2, 2), 1);
        x.pull(0);
        due("6: lit no more", x.lamp(0, 0), 0);
        due("6: lit now", x.lamp(1, 0), 1);
        for (int wrong : new int[] {-1, 4, FAR, LOW}) {
            due("6: no such lamp", x.lamp(wrong, 0), NONE);
            due("6: another what", x.lamp(0, wrong), NONE);
            due("7: no such cord", x.cord(wrong, 0), NONE);
            due("7: another what", x.cord(0, wrong), NONE);
        }
        due("7: another what", x.cord(0, 3), NONE);
    }

    private static void acts() {
        CordLoft x = Check.with(FOUR + "least 1;");
        due("8: picture()", x.picture(), 5);
        due("9: pull to the dark", x.pull(2), NONE);
        due("9: nothing was done", x.about(6), 0);
        due("9: pull(0)", x.pull(0), 6);
        due("9: spent", x.about(3), 3);
        due("8: picture() then", x.picture(), 6);
        due("9: no such", x.pull(4), NONE);
        due("9: no such", x.pull(-1), NONE);
        due("10: tie(2)", x.tie(2), 4);
        due("10: tie(0)", x.tie(0), 5);
        due("10: tied already", x.tie(2), NONE);
        due("10: no such", x.tie(4), NONE);
        due("10: no such", x.tie(-1), NONE);
        due("9: tied", x.pull(0), NONE);
        due("9: spent as before", x.about(3), 3);
        due("11: loose(2)", x.loose(2), 1);
        due("11: not tied", x.loose(2), NONE);
        due("11: no such", x.loose(4), NONE);
        due("11: no such", x.loose(-1), NONE);
        due("11: loose(0)", x.loose(0), 0);
        due("acts", x.about(6), 5);
        // least 2 lets a pull through that leaves just two
        CordLoft y = Check.with("lamp a lit;lamp b lit;lamp c lit;cord x turns a;cord y turns b;least 2;");
        due("9: two are left", y.pull(0), 6);
        due("9: one would be left", y.pull(1), NONE);
        due("9: back to three", y.pull(0), 7);
    }

    private static void dusks() {
        // by what was so ahead of it all: each lamp beside a lit one turns
        CordLoft x = Check.with("lamp a lit;lamp b;lamp c;next a b;next c b;dusk near;");
        due("12: dusk()", x.dusk(), 3);
        due("12: dusk()", x.dusk(), 4);
        due("12: night", x.about(4), 2);
        due("12: seed", x.about(5), (71 * 137 + 71) % 1000);
        // 9 * 137 + 71 = 1304: 304, and 4 is below 30, so lamp 304 % 4 = 0 turns
        CordLoft y = Check.with(FOUR + "gusts 30;draw 9;");
        due("12: a gust", y.dusk(), 4);
        due("12: seed", y.about(5), 304);
        // 304 * 137 + 71 = 41719: 719, and 19 is below 30: lamp 719 % 4 = 3
        due("12: a gust", y.dusk(), 12);
        // 719 * 137 + 71 = 98574: 574, and 74 is not
        due("12: no gust", y.dusk(), 12);
        CordLoft edge = Check.with("lamp a;gusts 71;");
        due("12: 71 is not below 71", edge.dusk(), 0);
        edge = Check.with("lamp a;gusts 72;");
        due("12: 71 is below 72", edge.dusk(), 1);
        due("12: no least", Check.with("lamp a lit;dusk 1;least 1;").dusk(), 0);
        units();
        arithmetic();
        largeRules();
        lastNight();
    }

    private static void lastNight() {
        CordLoft x = Check.with("lamp a;dusk 1;");
        for (int i = 1; i <= 999; i++) {
            due("12: dusk " + i, x.dusk(), i % 2);
        }
        due("12: behind 999", x.dusk(), NONE);
        due("12: night 999", x.about(4), 999);
        due("12: nothing is done", x.picture(), 1);
        due("15: beyond night 999", x.will(2, 0), 1);
        due("15: beyond night 999", x.will(3, 1), 0);
        due("31: beyond night 999", x.again(0), 2);
        x.undo();
        due("12: the 999th again", x.dusk(), 1);
    }

    private static void largeRules() {
        // seven nots ahead of each of thirty units
        String seven = "not ".repeat(7);
        turns((seven + "0 and ").repeat(29) + seven + "0", true);
        turns((seven + "0 and ").repeat(29) + seven + "1", false);
        // each level has something waiting at every joint
        String deep = "1";
        for (int i = 0; i < 3; i++) {
            deep = "(0 or 1 and 7<2+3*(1+1)*" + deep + ")";
        }
        turns(deep, true);
        turns("0 or 1 and 3<1+1*(1 or 1 and 1<1+1*(1 or 1 and 1<1+1*(1 or 1 and 1<1+1*(1 or 1 and 1<1))))", false);
        turns("0 or 1 and 1<1+1*(1 or 1 and 1<1+1*(1 or 1 and 1<1+1*(1 or 1 and 1<1+1*(1 or 1 and 1<1))))", true);
    }

    private static void units() {
        String lamps = "lamp a lit watts 7;lamp b;lamp c watts 3;cord x turns a b;cord y turns b;next a b;next b c;";
        due("12: lit", Check.with(lamps + "dusk lit;").dusk(), 0);
        due("12: near", Check.with(lamps + "dusk near;").dusk(), 3);
        due("12: cords", Check.with(lamps + "dusk cords=2;").dusk(), 3);
        due("12: number", Check.with(lamps + "dusk number=2;").dusk(), 5);
        due("12: watts", Check.with(lamps + "dusk watts>2;").dusk(), 4);
        due("12: night", Check.with(lamps + "dusk night;").dusk(), 1);
        CordLoft x = Check.with(lamps + "dusk night;");
        x.dusk();
        due("12: night 1", x.dusk(), 6);
        x = Check.with(lamps + "dusk cords;");
        x.tie(0);
        due("12: cords, tied or not", x.dusk(), 2);
        due("12: no dusk told", Check.with(lamps).dusk(), 1);
    }

    private static void arithmetic() {
        turns("1", true);
        turns("0", false);
        turns("0-1", false);
        turns("2-3+2", true);
        turns("7/2=3", true);
        turns("(0-7)/2=0-3", true);
        turns("(0-7)%2=0-1", true);
        turns("7%(0-2)=1", true);
        turns("5/0=0", true);
        turns("5%0=0", true);
        turns("2+3*4=14", true);
        turns("20/2/5=2", true);
        turns("20-5-5=10", true);
        turns("1<2", true);
        turns("2<2", false);
        turns("2>1", true);
        turns("2>2", false);
        turns("not 0", true);
        turns("not 5", false);
        turns("not (0-5)", false);
        turns("not not 5=1", false);
        turns("not 1=2", true);
        turns("(not not 5)=1", true);
        turns("(2 and 3)=1", true);
        turns("(0-2 and 3)=1", true);
        turns("2 and 0", false);
        turns("(0-1 or 0)=1", true);
        turns("0 or 0", false);
        turns("1 or 0 and 0", true);
        turns("0 and 0 or 1", true);
        turns("(1 or 1)+1=2", true);
        turns("5", true);
        // 9998000100 less twice 2^32
        turns("9999*9999*100=1408*1000*1000+65*1000+508", true);
        turns("9999*9999*30<0", true);
        // the least int by -1 is itself, its rest 0
        String least = "(0-2048*1024*1024)";
        turns(least + "<0", true);
        turns(least + "/(0-1)=" + least, true);
        turns(least + "%(0-1)=0", true);
    }

    private static void turns(String rule, boolean is) {
        due("12: dusk " + rule, Check.with("lamp a;dusk " + rule + ";").dusk(), is ? 1 : 0);
    }

    private static void undoAndRedo() {
        CordLoft x = Check.with(SINGLE + "dusk 1;gusts 99;");
        due("13: none", x.undo(), false);
        due("14: none", x.redo(), false);
        x.pull(0);
        x.tie(1);
        x.dusk();
        int then = x.picture();
        x.loose(1);
        due("13: the loosing", x.undo(), true);
        due("13: tied again", x.about(2), 2);
        due("13: the dusk", x.undo(), true);
        due("13: picture", x.picture(), 2);
        due("13: night", x.about(4), 0);
        due("13: seed", x.about(5), 0);
        due("13: the tie", x.undo(), true);
        due("13: the pull", x.undo(), true);
        due("13: spent", x.about(3), 0);
        due("13: picture", x.picture(), 3);
        due("13: none", x.undo(), false);
        due("14: about(7)", x.about(7), 4);
        due("14: the pull", x.redo(), true);
        due("14: spent", x.about(3), 2);
        x.redo();
        due("14: the dusk", x.redo(), true);
        due("14: picture", x.picture(), then);
        due("14: seed", x.about(5), 71);
        due("14: a refused act does nothing", x.pull(1), NONE);
        due("14: still one", x.about(7), 1);
        due("14: the loosing", x.redo(), true);
        due("14: none", x.redo(), false);
        x.undo();
        x.pull(0);
        due("14: none behind another act", x.redo(), false);
        due("13: about(6)", x.about(6), 4);
        fortyActs();
    }

    private static void fortyActs() {
        CordLoft x = Check.with(SINGLE);
        for (int i = 0; i < 45; i++) {
            x.pull(i % 3);
        }
        due("13: 40 are kept", x.about(6), 40);
        int spent = x.about(3);
        for (int i = 0; i < 40; i++) {
            due("13: undo " + i, x.undo(), true);
        }
        due("13: the oldest went", x.undo(), false);
        due("13: the five oldest are done", x.about(3), 2 + 5 + 2 + 2 + 5);
        for (int i = 0; i < 40; i++) {
            due("14: redo " + i, x.redo(), true);
        }
        due("14: none", x.redo(), false);
        due("14: spent", x.about(3), spent);
        x.undo();
        x.undo();
        x.pull(0);
        due("13: 39 are kept", x.about(6), 39);
        due("14: none", x.about(7), 0);
    }

    private static void will() {
        CordLoft x = Check.with(FOUR + "gusts 30;draw 9;");
        due("15: will(0, 1)", x.will(0, 1), 5);
        due("15: will(1, 1)", x.will(1, 1), 4);
        due("15: will(2, 1)", x.will(2, 1), 12);
        due("15: will(3, 1)", x.will(3, 1), 12);
        due("15: will(2, 0)", x.will(2, 0), 5);
        due("15: nothing is done", x.about(5), 9);
        CordLoft y = Check.with("lamp a;lamp b;dusk (night+number)%2;");
        due("15: will(1, 0)", y.will(1, 0), 2);
        due("15: will(2, 0)", y.will(2, 0), 3);
        due("15: will(60, 0)", y.will(60, 0), 0);
        due("15: 61", y.will(61, 0), NONE);
        due("15: -1", y.will(-1, 0), NONE);
        due("15: another what", y.will(1, 2), NONE);
        due("15: another what", y.will(1, -1), NONE);
        due("15: nothing is done", y.about(4), 0);
    }

    private static void canBe() {
        CordLoft x = Check.with(FOUR);
        due("16: can(0)", x.can(0), 1);
        due("16: can(1)", x.can(1), 0);
        due("16: can(5), by none", x.can(5), 1);
        due("16: no lamp", x.can(16), NONE);
        due("16: no lamp", x.can(-1), NONE);
        due("17: fewest(0, 0)", x.fewest(0, 0), 1);
        due("17: fewest(0, 1)", x.fewest(0, 1), 4);
        due("17: by none", x.fewest(5, 0), 0);
        due("17: by none", x.fewest(5, 1), 0);
        due("17: can't be", x.fewest(1, 0), NONE);
        due("17: no lamp", x.fewest(16, 0), NONE);
        due("17: another what", x.fewest(0, 2), NONE);
        due("17: another what", x.fewest(0, -1), NONE);
        due("19: ways(0)", x.ways(0), 2);
        due("19: ways(5)", x.ways(5), 2);
        due("19: ways(1)", x.ways(1), 0);
        due("19: no lamp", x.ways(16), NONE);
        due("19: no lamp", x.ways(-1), NONE);
        x.tie(2);
        due("17: without the tied one", x.fewest(0, 1), 3);
        due("19: without the tied one", x.ways(0), 1);
        x.tie(3);
        due("16: without the tied ones", x.can(9), 0);
        // of like ones the least set as bits: y and z, x and w each turn a and b
        CordLoft y = Check.with("lamp a;lamp b;cord x turns a;cord y turns a;cord z turns b;cord w turns b;");
        due("17: the least set", y.fewest(3, 1), 5);
        due("19: ways(3)", y.ways(3), 4);
    }

    private static void cheapest() {
        CordLoft x = Check.with(FOUR);
        due("18: cheapest(0, 0)", x.cheapest(0, 0), 4);
        due("18: cheapest(0, 1)", x.cheapest(0, 1), 3);
        due("18: can't be", x.cheapest(1, 0), NONE);
        due("18: no lamp", x.cheapest(-16, 0), NONE);
        due("18: another what", x.cheapest(0, 2), NONE);
        due("18: another what", x.cheapest(0, -1), NONE);
        // as cheap: x y, or z alone, or w alone; the fewest, then the least
        CordLoft y = Check.with("lamp a;lamp b;cord x turns a costs 1;cord y turns b costs 2;"
                + "cord z turns a b costs 3;cord w turns a b costs 3;");
        due("18: of like ones the fewest", y.cheapest(3, 1), 4);
        due("18: of like ones the fewest", y.cheapest(3, 0), 3);
        CordLoft z = Check.with("lamp a;cord x turns a costs 0;cord y turns a costs 0;");
        due("18: none is fewer than two for nothing", z.cheapest(0, 1), 0);
        z.tie(0);
        due("18: by free ones", z.cheapest(1, 1), 2);
    }

    private static void silentAndSpare() {
        CordLoft x = Check.with(FOUR);
        due("20: silent(0)", x.silent(0), 3);
        due("20: silent(1)", x.silent(1), 7);
        due("20: another what", x.silent(2), NONE);
        due("20: another what", x.silent(-1), NONE);
        due("21: pictures()", x.pictures(), 8);
        due("22: spare()", x.spare(), 7);
        x.tie(0);
        due("20: none", x.silent(0), NONE);
        due("21: as many", x.pictures(), 8);
        due("22: none", x.spare(), 0);
        x.tie(1);
        due("21: fewer", x.pictures(), 4);
        CordLoft y = Check.with("lamp a;cord x turns a;cord y turns a;cord z turns a;");
        due("20: of like ones the least", y.silent(1), 3);
        due("22: each", y.spare(), 7);
        y.tie(0);
        due("20: of free ones", y.silent(1), 6);
        due("22: of free ones", y.spare(), 6);
    }

    private static void bestPictures() {
        CordLoft x = Check.with(FOUR);
        due("23: brightest(0)", x.brightest(0), 4);
        due("23: brightest(1)", x.brightest(1), 15);
        due("24: dimmest(0)", x.dimmest(0), 0);
        due("24: dimmest(1)", x.dimmest(1), 0);
        due("25: nearest(1, 0)", x.nearest(1, 0), 1);
        due("25: nearest(1, 1)", x.nearest(1, 1), 0);
        due("25: it can be", x.nearest(9, 0), 0);
        due("25: it can be", x.nearest(9, 1), 9);
        due("25: no lamp", x.nearest(16, 0), NONE);
        due("25: no lamp", x.nearest(-1, 1), NONE);
        due("25: another what", x.nearest(1, 2), NONE);
        due("25: another what", x.nearest(1, -1), NONE);
        due("23: another what", x.brightest(2), NONE);
        due("23: another what", x.brightest(-1), NONE);
        due("24: another what", x.dimmest(2), NONE);
        due("24: another what", x.dimmest(-1), NONE);
        x.tie(1);
        x.tie(2);
        x.tie(3);
        due("23: of like ones the least", x.brightest(1), 5);
        due("24: watts, not lamps", x.dimmest(0), 5);
        due("24: the picture", x.dimmest(1), 6);
        CordLoft y = Check.with("lamp a lit watts 2;lamp b watts 2;cord x turns a b;");
        due("24: of like ones the least", y.dimmest(1), 1);
        due("25: of like ones the least", y.nearest(3, 1), 1);
        due("25: of like ones the least", y.nearest(0, 1), 1);
    }

    private static void apartAndMark() {
        CordLoft x = Check.with(FOUR);
        due("26: apart(0)", x.apart(0), 2);
        due("26: apart(1)", x.apart(1), 3);
        due("27: mark(0)", x.mark(0), 4);
        due("27: mark(1)", x.mark(1), 15);
        due("26: another what", x.apart(2), NONE);
        due("26: another what", x.apart(-1), NONE);
        due("27: another what", x.mark(2), NONE);
        due("27: another what", x.mark(-1), NONE);
        x.tie(0);
        x.tie(1);
        due("26: without tied ones", x.apart(1), 5);
        due("27: without tied ones", x.mark(1), 2);
        x.tie(2);
        x.tie(3);
        due("26: just one picture", x.apart(0), NONE);
        due("27: any one", x.mark(0), 1);
        due("27: any one", x.mark(1), 1);
        CordLoft y = Check.with(SINGLE);
        due("27: none", y.mark(0), NONE);
        due("26: one lamp", y.apart(0), 1);
        due("26: the least", y.apart(1), 1);
        // two cords that turn three each, but one together
        CordLoft z = Check.with("lamp a;lamp b;lamp c;lamp d;cord x turns a b c;cord y turns b c d;");
        due("26: by both", z.apart(1), 9);
    }

    private static void steady() {
        CordLoft x = Check.with(FOUR + "least 1;");
        due("28: dark is below least", x.steady(0), NONE);
        due("48: nothing lies", x.about(12), 0);
        due("29: none", x.rows(0), 0);
        due("28: steady(15)", x.steady(15), 2);
        due("48: lies(0)", x.lies(0), 1);
        due("48: lies(1)", x.lies(1), 3);
        due("48: lies(2)", x.lies(2), NONE);
        due("48: lies(-1)", x.lies(-1), NONE);
        due("29: rows(15)", x.rows(15), 2);
        due("48: rows leave it", x.about(12), 2);
        due("28: there", x.steady(5), 0);
        due("48: nothing lies", x.lies(0), NONE);
        due("29: there", x.rows(5), 1);
        x.steady(15);
        due("28: no lamp", x.steady(16), NONE);
        due("48: nothing lies", x.about(12), 0);
        due("28: no lamp", x.steady(-1), NONE);
        due("29: no lamp", x.rows(16), 0);
        due("29: no lamp", x.rows(-1), 0);
        due("28: can't be", x.steady(1), NONE);
        // two lamps exchange, one must burn: first b, then a
        CordLoft y = Check.with("lamp a lit;lamp b;cord x turns a;cord y turns b;least 1;");
        due("28: steady(2)", y.steady(2), 2);
        due("28: first", y.lies(0), 1);
        due("28: then", y.lies(1), 0);
        due("29: rows(2)", y.rows(2), 1);
        // none burns now, and that is no matter; like cords are rows of their own
        CordLoft z = Check.with("lamp a;lamp b;cord x turns a;cord y turns a;cord z turns b;least 1;");
        due("28: steady(3)", z.steady(3), 2);
        due("28: the least cord", z.lies(0), 0);
        due("28: then", z.lies(1), 2);
        due("29: rows(3)", z.rows(3), 4);
        z.tie(0);
        due("29: free ones", z.rows(3), 2);
        z.steady(3);
        due("28: free ones", z.lies(0), 1);
        oneCordTwice();
    }

    private static void oneCordTwice() {
        // x or y alone would leave one lamp, so e is lit by h till both are pulled
        CordLoft x = Check.with("lamp a lit;lamp b lit;lamp c;lamp d;lamp e;"
                + "cord x turns a b c;cord y turns a b d;cord h turns e;least 2;");
        due("28: four pulls", x.steady(15), 4);
        int[] want = {2, 0, 1, 2};
        for (int i = 0; i < 4; i++) {
            due("28: lies(" + i + ")", x.lies(i), want[i]);
        }
        due("29: also y ahead of x", x.rows(15), 2);
        x.tie(2);
        due("28: not without h", x.steady(15), NONE);
        CordLoft y = Check.with("lamp a lit;lamp b lit;lamp c;cord x turns a;cord y turns b;cord h turns c;least 2;");
        due("28: steady(5)", y.steady(5), 2);
        due("28: h", y.lies(0), 2);
        due("28: y", y.lies(1), 1);
    }

    private static void game() {
        CordLoft x = Check.with(FOUR);
        due("30: won at once", x.game(0), 1);
        due("30: by z", x.game(1), 2);
        due("30: another what", x.game(2), NONE);
        due("30: another what", x.game(-1), NONE);
        // whoever pulls first leaves one lamp to the other
        CordLoft y = Check.with("lamp a lit;lamp b lit;cord x turns a;cord y turns b;");
        due("30: lost", y.game(0), -1);
        due("30: lost by the first", y.game(1), 0);
        y.tie(0);
        due("30: neither", y.game(0), 0);
        due("30: by the free one", y.game(1), 1);
        y.tie(1);
        due("30: no cord", y.game(0), 0);
        due("30: no cord", y.game(1), NONE);
        // dark already is not won: with one cord left neither has
        CordLoft z = Check.with("lamp a;cord x turns a;");
        due("30: dark now", z.game(0), 0);
        // dark now, two like cords: who begins lights it, the other one wins
        CordLoft w = Check.with("lamp a;cord x turns a;cord y turns a;");
        due("30: lost", w.game(0), -1);
        // least does not matter
        CordLoft v = Check.with("lamp a lit;cord x turns a;least 1;");
        due("30: least does not matter", v.game(0), 1);
    }

    private static void againPastsStill() {
        CordLoft x = Check.with("lamp a lit;lamp b;lamp c;dusk number=0;gusts 100;");
        due("31: again(0)", x.again(0), 2);
        due("31: again(1)", x.again(1), 0);
        due("31: another what", x.again(2), NONE);
        due("31: another what", x.again(-1), NONE);
        due("32: pasts(0)", x.pasts(0), 1);
        due("32: pasts(1)", x.pasts(1), 0);
        due("33: still()", x.still(), 0);
        // lit ones go out: all pictures become the dark
        CordLoft y = Check.with("lamp a lit;lamp b;lamp c;dusk lit;");
        due("31: the dark comes again", y.again(0), 2);
        due("31: behind one", y.again(1), 1);
        due("32: none", y.pasts(0), 0);
        due("32: none", y.pasts(1), NONE);
        due("33: the dark stays", y.still(), 1);
        y.dusk();
        due("32: all", y.pasts(0), 8);
        due("32: the least", y.pasts(1), 0);
        due("32: another what", y.pasts(2), NONE);
        due("32: another what", y.pasts(-1), NONE);
        due("31: at once", y.again(0), 1);
        CordLoft z = Check.with("lamp a;lamp b;dusk night%2=0 and number=0;");
        due("31: by the night", z.again(0), 2);
        due("33: by the night now", z.still(), 0);
        z.dusk();
        due("33: by the night then", z.still(), 4);
        due("31: the night goes on", z.again(0), 1);
        CordLoft none = new CordLoft();
        due("31: no lamps", none.again(0), 1);
        due("31: no lamps", none.again(1), 0);
        due("33: no lamps", none.still(), 1);
        longCycle();
    }

    private static void longCycle() {
        // lamp n turns at each night whose rest by 2^n is 2^n - 1: the night is counted in bits
        StringBuilder text = new StringBuilder();
        int[] watts = {1, 2, 4, 8, 16, 32, 64};
        for (int i = 0; i < watts.length; i++) {
            text.append("lamp ").append((char) ('a' + i)).append(" watts ").append(watts[i]).append(';');
        }
        CordLoft x = Check.with(text + "dusk night%watts=watts-1;");
        due("31: 128 pictures", x.again(0), 128);
        due("31: from the first", x.again(1), 0);
        due("15: 60 of them", x.will(60, 0), 60);
    }

    private static void knotMoreExchange() {
        CordLoft x = Check.with(FOUR);
        due("34: spare", x.knot(0), 0);
        due("34: knot(3)", x.knot(3), 4);
        due("34: no such", x.knot(4), NONE);
        due("34: no such", x.knot(-1), NONE);
        due("35: more(0)", x.more(0), 1);
        due("35: more(1)", x.more(1), 16);
        due("35: another what", x.more(2), NONE);
        due("35: another what", x.more(-1), NONE);
        x.tie(2);
        due("34: tied", x.knot(2), NONE);
        due("34: half of eight", x.knot(0), 4);
        CordLoft y = Check.with(SINGLE);
        due("35: all can be", y.more(0), 0);
        due("35: all can be", y.more(1), 8);
        y.tie(2);
        due("35: the tied one's", y.more(0), 4);
        due("35: with it", y.more(1), 8);
        exchange();
    }

    private static void exchange() {
        CordLoft x = Check.with(FOUR);
        due("36: the first one", x.exchange(0), 1);
        due("36: the other one", x.exchange(1), 2);
        due("36: what the dark costs", x.exchange(2), 1);
        due("36: another what", x.exchange(3), NONE);
        due("36: another what", x.exchange(-1), NONE);
        // a tied cord's cost can be had as well
        CordLoft y = Check.with("lamp a lit;lamp b;cord x turns a costs 9;cord y turns b costs 0;");
        due("36: with a free one", y.exchange(2), 0);
        y.tie(1);
        due("36: with a tied one", y.exchange(0), 0);
        due("36: with a tied one", y.exchange(1), 1);
        due("36: with a tied one", y.exchange(2), 0);
        y.tie(0);
        due("36: the dark can't be", y.exchange(0), NONE);
        // as cheap as now is none
        CordLoft z = Check.with("lamp a lit;lamp b;cord x turns a costs 1;cord y turns b costs 1;");
        due("36: none is cheaper", z.exchange(0), NONE);
        CordLoft dark = Check.with("lamp a;cord x turns a costs 3;cord y turns a costs 1;");
        due("36: dark now", dark.exchange(2), NONE);
        // of like ones the first
        CordLoft w = Check.with("lamp a lit;lamp b;cord q turns b costs 2;cord x turns a costs 5;"
                + "cord y turns b costs 2;cord z turns b costs 2;");
        due("36: the first of three", w.exchange(0), 0);
        due("36: with x", w.exchange(1), 1);
        // the dark takes all cords, so none gains
        CordLoft all = Check.with("lamp a lit;lamp b lit;cord x turns a costs 4;cord y turns b;");
        due("36: all cords", all.exchange(0), NONE);
    }

    private static void cordsNamed() {
        CordLoft x = Check.with(FOUR);
        due("37: none is tied", x.loosen(), NONE);
        due("38: boldest(0)", x.boldest(0), 0);
        due("38: boldest(1)", x.boldest(1), 2);
        due("38: another what", x.boldest(2), NONE);
        due("38: another what", x.boldest(-1), NONE);
        due("39: dearest()", x.dearest(), 2);
        due("40: odd()", x.odd(), 0);
        due("45: longest()", x.longest(), 0);
        x.tie(2);
        x.tie(3);
        due("37: w gives more than z", x.loosen(), 3);
        due("39: of free ones", x.dearest(), 0);
        x.tie(0);
        x.tie(1);
        due("37: of like ones the first", x.loosen(), 0);
        due("38: none is free", x.boldest(0), NONE);
        due("38: none is free", x.boldest(1), NONE);
        due("39: none is free", x.dearest(), NONE);
        CordLoft y = Check.with(SINGLE + "cord w turns a b c costs 5;least 3;");
        due("38: z lights one more", y.boldest(0), 2);
        due("38: three", y.boldest(1), 3);
        due("39: of like ones the first", y.dearest(), 1);
        due("40: odd()", y.odd(), 15);
        y.tie(3);
        due("40: of free ones", y.odd(), 7);
        due("45: tied or not", y.longest(), 3);
        CordLoft none = new CordLoft();
        due("45: without cords", none.longest(), NONE);
        due("40: without cords", none.odd(), 0);
        CordLoft dark = Check.with("lamp a lit;cord x turns a;");
        due("38: to the dark", dark.boldest(1), 0);
        due("38: to the dark", dark.boldest(0), 0);
    }

    private static void lampsNamed() {
        CordLoft x = Check.with("lamp a lit watts 9;lamp b;lamp c lit watts 0;lamp d lit watts 30;"
                + "cord x turns a b;cord y turns a b c;cord z turns c;");
        due("41: alike(0)", x.alike(0), 2);
        due("41: alike(1)", x.alike(1), 1);
        due("41: alike(2)", x.alike(2), 0);
        due("41: by none", x.alike(3), 0);
        due("41: no such", x.alike(4), NONE);
        due("41: no such", x.alike(-1), NONE);
        due("42: alone()", x.alone(), 8);
        due("43: burning()", x.burning(), 3);
        due("44: load()", x.load(), 39);
        x.tie(0);
        x.tie(2);
        due("41: by free ones", x.alike(0), 6);
        x.tie(1);
        due("42: no free ones", x.alone(), 15);
        due("41: all by none", x.alike(3), 7);
        x.loose(1);
        x.pull(1);
        due("43: burning() then", x.burning(), 2);
        due("44: load() then", x.load(), 31);
    }

    private static void lawAndOdds() {
        CordLoft x = Check.with(SINGLE);
        due("46: law(0)", x.law(0), 2);
        due("46: law(1)", x.law(1), 2);
        due("46: law(2)", x.law(2), 2);
        due("46: law(5)", x.law(5), 1);
        due("46: law(20)", x.law(20), 1);
        due("46: law(21)", x.law(21), NONE);
        due("46: law(-1)", x.law(-1), NONE);
        x.tie(0);
        due("46: free ones", x.law(2), 3);
        due("46: nothing is done", x.picture(), 3);
        CordLoft y = Check.with("lamp a;gusts 36;");
        int[] upper = {1, 16, 256, 4096, 65536};
        int[] lower = {1, 25, 625, 15625, 390625};
        for (int n = 0; n <= 4; n++) {
            due("47: odds(" + n + ", 0)", y.odds(n, 0), upper[n]);
            due("47: odds(" + n + ", 1)", y.odds(n, 1), lower[n]);
        }
        due("47: 5", y.odds(5, 0), NONE);
        due("47: -1", y.odds(-1, 0), NONE);
        due("47: another part", y.odds(1, 2), NONE);
        due("47: another part", y.odds(1, -1), NONE);
        y.dusk();
        due("47: whatever the seed", y.odds(2, 0), 256);
        CordLoft all = Check.with("lamp a;gusts 100;");
        due("47: 0 of 1", all.odds(2, 0), 0);
        due("47: 0 of 1", all.odds(2, 1), 1);
        due("47: in none", all.odds(0, 0), 1);
        due("47: in none", all.odds(0, 1), 1);
        due("47: 97 of 100, fourfold", Check.with("gusts 3;").odds(4, 0), 88529281);
        due("47: 97 of 100, fourfold", Check.with("gusts 3;").odds(4, 1), 100000000);
    }

    private static void sight() {
        CordLoft x = Check.with(FOUR);
        due("52: fits(0)", x.fits(0), 16);
        due("53: fit(0)", x.fit(0), 0);
        due("49: seen(3, true)", x.seen(3, true), 0);
        due("49: no such lamp", x.seen(4, true), NONE);
        due("49: no such lamp", x.seen(-1, false), NONE);
        due("52: w", x.fits(0), 8);
        due("53: w", x.fit(0), 8);
        due("54: in all", x.sure(3, 0), 1);
        due("54: neither", x.sure(0, 0), -2);
        due("54: no such", x.sure(4, 0), NONE);
        due("54: no such", x.sure(-1, 0), NONE);
        due("51: later(0)", x.later(0), 0);
        due("51: later(5)", x.later(5), 5);
        due("49: seen(3, false)", x.seen(3, false), 1);
        due("52: both can't be", x.fits(5), 0);
        due("53: none", x.fit(5), NONE);
        due("54: none", x.sure(3, 5), NONE);
        due("55: none", x.ask(0, 5), NONE);
        due("52: as known at 4", x.fits(4), 8);
        due("52: as known ahead of all", x.fits(-1), 16);
        due("52: as known ahead of all", x.fits(LOW), 16);
        due("50: untell(0)", x.untell(0), true);
        due("50: so already", x.untell(0), false);
        due("50: no such", x.untell(2), false);
        due("50: no such", x.untell(-1), false);
        due("52: at 5", x.fits(5), 8);
        due("54: in none", x.sure(3, 5), 0);
        due("52: at 4", x.sure(3, 4), 1);
        due("52: far on", x.fits(FAR), 8);
        due("50: at the same time", x.untell(1), true);
        due("52: never known", x.fits(5), 16);
        due("about(8)", x.about(8), 2);
        // of the loft as it was told, by all cords
        x.tie(3);
        x.pull(0);
        x.seen(3, true);
        due("54: tied or not", x.sure(3, 5), 1);
        thirtySeen();
        times();
    }

    private static void thirtySeen() {
        CordLoft x = Check.with("lamp a;cord c turns a;");
        for (int i = 0; i < 30; i++) {
            due("49: seen " + i, x.seen(0, true), i);
            x.untell(i);
        }
        due("49: there are 30", x.seen(0, true), NONE);
        due("49: there are 30", x.about(8), 30);
    }

    private static void times() {
        CordLoft x = new CordLoft();
        due("51: -1", x.later(-1), NONE);
        due("51: 1001", x.later(1001), NONE);
        due("51: far", x.later(FAR), NONE);
        for (int i = 1; i <= 99; i++) {
            due("51: later", x.later(1000), 1000L * i);
        }
        due("51: 999", x.later(999), 99999);
        due("51: beyond", x.later(2), NONE);
        due("51: to the end", x.later(1), 100000);
        due("51: no further", x.later(1), NONE);
        due("51: none", x.later(0), 100000);
    }

    private static void ask() {
        CordLoft x = Check.with(FOUR);
        due("55: ask(0, 0)", x.ask(0, 0), 0);
        due("55: ask(1, 0)", x.ask(1, 0), 8);
        x.seen(0, true);
        due("55: the next one", x.ask(0, 0), 1);
        due("55: four", x.ask(1, 0), 4);
        due("55: another what", x.ask(2, 0), NONE);
        due("55: another what", x.ask(-1, 0), NONE);
        CordLoft none = new CordLoft();
        due("55: no lamps", none.ask(1, 0), NONE);
        CordLoft still = Check.with("lamp a;lamp b;");
        due("55: nothing to learn", still.ask(0, 0), 0);
        due("55: nothing to learn", still.ask(1, 0), 1);
    }

    private static void boxes() {
        CordLoft x = Check.with(FOUR + "dusk number=3;gusts 50;draw 3;");
        for (int box = -1; box <= 3; box++) {
            due("57: nothing was", x.back(box), NONE);
        }
        due("56: image(0)", x.image(0), 5);
        x.pull(0);
        due("57: back(0)", x.back(0), 5);
        x.pull(0);
        x.tie(1);
        x.dusk();
        int picture = x.picture();
        due("56: image(2)", x.image(2), picture);
        due("56: no act", x.about(6), 3);
        due("56: no such", x.image(3), NONE);
        due("56: no such", x.image(-1), NONE);
        x.loose(1);
        x.pull(3);
        x.dusk();
        x.undo();
        due("57: back(2)", x.back(2), picture);
        int[] want = {4, 4, 2, 3, 1, (3 * 137 + 71) % 1000, 0, 0, 0, 0, 0, 2, 0, 0, 50};
        for (int what = 0; what < want.length; what++) {
            due("57: about(" + what + ")", x.about(what), want[what]);
        }
        due("57: no acts are kept", x.undo(), false);
        due("57: no acts are kept", x.redo(), false);
        due("57: nothing was", x.back(1), NONE);
        due("57: no such", x.back(3), NONE);
        due("57: no such", x.back(-1), NONE);
        x.pull(0);
        due("57: once more", x.back(2), picture);
        due("57: spent", x.about(3), 3);
        x.pull(0);
        x.image(2);
        x.pull(0);
        due("56: kept anew", x.back(2), picture ^ 3);
    }

    private static void about() {
        CordLoft x = Check.with(FOUR + "least 1;gusts 30;draw 9;dusk (lit+1)*0;");
        x.pull(0);
        x.pull(3);
        x.tie(2);
        x.dusk();
        x.undo();
        x.later(12);
        x.seen(0, true);
        x.steady(15);
        x.feed(0, 0, 0, 0, 0);
        int[] want = {4, 4, 4, 5, 0, 9, 3, 1, 1, 12, 20, 4, 2, 1, 30};
        for (int what = 0; what < want.length; what++) {
            due("58: about(" + what + ")", x.about(what), want[what]);
        }
        due("58: 15", x.about(15), NONE);
        due("58: -1", x.about(-1), NONE);
        due("58: far", x.about(FAR), NONE);
    }

    private static void wildArguments() {
        int[] wild = {LOW, -257, -256, -2, -1, 3, 8, 30, 31, 32, 33, 255, 256, 257, 1 << 16, FAR};
        CordLoft empty = new CordLoft();
        CordLoft full = Check.with(FOUR + "dusk near;");
        for (CordLoft x : new CordLoft[] {empty, full}) {
            for (int a : wild) {
                long sum = x.pull(a) + x.tie(a) + x.loose(a) + x.can(a) + x.ways(a) + x.steady(a) + x.rows(a)
                        + x.knot(a) + x.alike(a) + x.law(a) + x.lies(a) + x.later(a) + x.fits(a) + x.fit(a)
                        + x.image(a) + x.back(a) + x.about(a) + x.game(a) + x.end(a) + (x.untell(a) ? 1 : 0);
                for (int b : wild) {
                    sum += x.lamp(a, b) + x.cord(a, b) + x.will(a, b) + x.fewest(a, b) + x.cheapest(a, b)
                            + x.nearest(a, b) + x.odds(a, b) + x.sure(a, b) + x.ask(a, b);
                }
                due("no call throws", sum == sum, true);
            }
        }
    }
}
