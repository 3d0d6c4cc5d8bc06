/** Boundary cases of what is seen, when it is known, and what fits it. */
final class SightBoundaries {
    private static final int NONE = CordLoft.NONE;
    private static final int FAR = Integer.MAX_VALUE;
    private static final int LOW = Integer.MIN_VALUE;

    private SightBoundaries() {
    }

    static void test() {
        constant();
        atMost();
        ofTheLoftAsTold();
        seen();
        untell();
        later();
        asKnownAt();
        fits();
        sure();
        ask();
    }

    private static void constant() {
        Sentence.of(Sentence.TERMS, "The constants: `NONE = -1`: There is none.");
        Check.due("NONE", CordLoft.NONE, -1);
    }

    private static void atMost() {
        Sentence.of(Sentence.TERMS, "SEEN, 30 at most, is TOLD at a TIME (0 at first, goes on), UNTOLD at a later one or the"
                + " same");
        Check.due("29", told(29).seen(0, true), 29);
        Check.due("30", told(30).seen(0, true), NONE);
        Check.due("they are", told(30).about(8), 30);
        CordLoft x = new CordLoft();
        Check.due("at first", x.about(9), 0);
        x.later(7);
        x.later(2);
        Check.due("goes on", x.about(9), 9);
        CordLoft y = told(1);
        y.untell(0);
        Check.due("untold at the same time", y.fits(0), 2);
    }

    private static CordLoft told(int n) {
        CordLoft x = Check.with("lamp a;cord c turns a;");
        for (int i = 0; i < n; i++) {
            Check.due("seen " + i, x.seen(0, true), i);
        }
        return x;
    }

    private static void ofTheLoftAsTold() {
        Sentence.of(Sentence.TERMS, "of the loft as it was told, when each of some CORDS, which are not known, had been pulled"
                + " once: that a LAMP was LIT, or was not.");
        CordLoft x = Check.with("lamp a lit;lamp b;cord x turns a b;cord y turns b;dusk 1;");
        x.pull(0);
        x.dusk();
        x.tie(0);
        x.seen(0, true);
        Check.due("not x: a was lit as told", x.fit(0), 0);
        Check.due("not x", x.sure(0, 0), 0);
        x.untell(0);
        x.seen(0, false);
        Check.due("x, though it is tied", x.sure(0, 0), 1);
    }

    private static void seen() {
        Sentence.of(49, "A SEEN: its number;");
        CordLoft x = Lofts.eight();
        Check.due("the first lamp", x.seen(0, true), 0);
        Check.due("the last lamp", x.seen(7, false), 1);
        Check.due("the same once more", x.seen(7, false), 2);
        Check.due("what can't be", x.seen(7, true), 3);
        Check.due("no act", x.about(6), 0);
        Sentence.of(49, "NONE, doing nothing, if there is no such LAMP, or there are 30.");
        for (int lamp : new int[] {LOW, -2, -1, 4, 5, 8, 32, FAR}) {
            Check.refused("seen(" + lamp + ", true)", Lofts::livedIn, y -> y.seen(lamp, true));
            Check.refused("seen(" + lamp + ", false)", Lofts::livedIn, y -> y.seen(lamp, false));
        }
        Check.none("seen among eight", lamp -> x.seen(lamp, true), -1, 8);
        Check.none("seen of no lamps", lamp -> new CordLoft().seen(lamp, true), -1, 0);
        Check.refused("the 31st", () -> told(30), y -> y.seen(0, false));
        CordLoft untold = told(30);
        untold.untell(0);
        untold.untell(29);
        Check.due("untold ones are there still", untold.seen(0, true), NONE);
    }

    private static void untell() {
        Sentence.of(50, "It is UNTOLD: true;");
        CordLoft x = told(30);
        Check.due("the first", x.untell(0), true);
        Check.due("the last", x.untell(29), true);
        Sentence.of(50, "false if it is so already, or there is none such.");
        Check.due("already", x.untell(0), false);
        Check.due("already", x.untell(29), false);
        x.later(3);
        Check.due("already, also later", x.untell(0), false);
        for (int number : new int[] {LOW, -2, -1, 30, 31, FAR}) {
            Check.due("untell(" + number + ")", x.untell(number), false);
        }
        Check.due("none is there", new CordLoft().untell(0), false);
        // of the two the first is untold already, at time 5
        for (int number : new int[] {LOW, -1, 0, 2, FAR}) {
            CordLoft y = Lofts.livedIn();
            Check.due("untell(" + number + ")", y.untell(number), false);
            Check.same("all behind untell(" + number + ")", Trace.of(y), Trace.of(Lofts.livedIn()));
        }
        CordLoft first = told(1);
        first.later(2);
        first.untell(0);
        first.later(2);
        first.untell(0);
        Check.due("the first time counts", first.fits(2), 2);
        Check.due("ahead of it", first.fits(1), 1);
    }

    private static void later() {
        Sentence.of(51, "So much later (0 .. 1000): the TIME;");
        CordLoft x = new CordLoft();
        Check.due("later(0)", x.later(0), 0);
        Check.due("later(1)", x.later(1), 1);
        Check.due("later(999)", x.later(999), 1000);
        Check.due("later(1000)", x.later(1000), 2000);
        Sentence.of(51, "NONE, doing nothing, for another number, or if it would be above 100,000.");
        for (int by : new int[] {LOW, -1000, -2, -1, 1001, 1002, 100000, FAR}) {
            Check.refused("later(" + by + ")", Lofts::livedIn, y -> y.later(by));
        }
        Check.due("to 100,000", at(99000).later(1000), 100000);
        Check.refused("to 100,001", () -> at(99001), y -> y.later(1000));
        Check.refused("from 100,000 on", () -> at(100000), y -> y.later(1));
        Check.due("no later than 100,000", at(100000).later(0), 100000);
    }

    private static CordLoft at(int time) {
        CordLoft x = new CordLoft();
        for (int left = time; left > 0; left -= 1000) {
            x.later(Math.min(left, 1000));
        }
        Check.due("the time", x.about(9), time);
        return x;
    }

    private static void asKnownAt() {
        Sentence.of(Sentence.TERMS, "As known at k that counts that was TOLD at k or before, not UNTOLD at k or before.");
        CordLoft x = Check.with("lamp a;cord c turns a;");
        x.later(10);
        x.seen(0, true);
        x.later(10);
        x.untell(0);
        x.later(10);
        int[] times = {LOW, -1, 0, 9, 10, 11, 19, 20, 21, 30, 31, FAR};
        int[] fitting = {2, 2, 2, 2, 1, 1, 1, 2, 2, 2, 2, 2};
        for (int i = 0; i < times.length; i++) {
            Check.due("fits(" + times[i] + ")", x.fits(times[i]), fitting[i]);
            Check.due("fit(" + times[i] + ")", x.fit(times[i]), fitting[i] == 1 ? 1 : 0);
            Check.due("sure(0, " + times[i] + ")", x.sure(0, times[i]), fitting[i] == 1 ? 1 : -2);
            Check.due("ask(1, " + times[i] + ")", x.ask(1, times[i]), 1);
        }
        CordLoft early = Check.with("lamp a;cord c turns a;");
        early.seen(0, true);
        Check.due("told at 0, known at 0", early.fits(0), 1);
        Check.due("not ahead of 0", early.fits(-1), 2);
    }

    private static void fits() {
        Sentence.of(Sentence.TERMS, "FITS: sets of CORDS (none, too) by which all that counts is so.");
        CordLoft x = Check.with("lamp a;lamp b;cord c turns a;cord d turns a b;");
        x.seen(0, false);
        Check.due("none, or both", x.fits(0), 2);
        x.seen(1, false);
        Check.due("none", x.fits(0), 1);
        Check.due("none", x.fit(0), 0);
        Sentence.of(52, "FITS: how many.");
        Check.due("all sets of eight", Lofts.eight().fits(0), 256);
        Check.due("no cords", Check.with("lamp a;").fits(0), 1);
        Check.due("no lamps", new CordLoft().fits(0), 1);
        CordLoft never = Check.with("lamp a lit;");
        never.seen(0, false);
        Check.due("none", never.fits(0), 0);
        CordLoft both = Lofts.eight();
        both.seen(3, true);
        both.seen(3, false);
        Check.due("lit and not lit", both.fits(0), 0);
        CordLoft all = Lofts.eight();
        for (int lamp = 0; lamp < 8; lamp++) {
            all.seen(lamp, lamp > 5);
            Check.due("halved", all.fits(0), 128 >> lamp);
        }
        Sentence.of(53, "The least of FITS, as bits;");
        Check.due("the last two", all.fit(0), 192);
        Check.due("none are the least", Lofts.eight().fit(0), 0);
        CordLoft least = Check.with("lamp a;cord c turns a;cord d turns a;cord e turns a;");
        least.seen(0, true);
        Check.due("one of three", least.fit(0), 1);
        Sentence.of(53, "NONE if none FITS.");
        Check.due("none", never.fit(0), NONE);
        Check.due("none", both.fit(0), NONE);
        Check.due("none was known then", both.fit(-1), 0);
    }

    private static void sure() {
        Sentence.of(Sentence.TERMS, "SURE of a CORD: whether it is in all of these, or in none.");
        CordLoft x = Lofts.eight();
        x.seen(0, true);
        x.seen(7, false);
        Sentence.of(54, "SURE: 1 if in all, 0 if in none, -2 if neither;");
        Check.due("in all", x.sure(0, 0), 1);
        Check.due("in none", x.sure(7, 0), 0);
        Check.due("neither", x.sure(3, 0), -2);
        Check.due("not known yet", x.sure(0, -1), -2);
        Sentence.of(54, "NONE if none FITS, or there is no such CORD.");
        for (int cord : new int[] {LOW, -2, -1, 8, 9, 32, FAR}) {
            Check.due("sure(" + cord + ", 0)", x.sure(cord, 0), NONE);
        }
        Check.due("no cords", Check.with("lamp a;").sure(0, 0), NONE);
        x.seen(7, true);
        for (int cord = 0; cord < 8; cord++) {
            Check.due("none fits", x.sure(cord, 0), NONE);
        }
        Check.due("all fit, as known ahead of that", x.sure(0, -1), -2);
    }

    private static void ask() {
        Sentence.of(Sentence.TERMS, "ASK: the LAMP of which to know whether it was LIT would leave the fewest of these at the"
                + " most; of like ones the first.");
        // nothing turns a; b and d are turned by half of the sets
        CordLoft x = Check.with("lamp a;lamp b;lamp c;lamp d;cord p turns b;cord q turns d;");
        Check.due("b", x.ask(0, 0), 1);
        x.seen(1, true);
        Check.due("d", x.ask(0, 0), 3);
        x.seen(3, true);
        Check.due("nothing is left to learn: the first", x.ask(0, 0), 0);
        Check.due("one set", x.ask(1, 0), 1);
        CordLoft turned = Check.with("lamp a;lamp b;cord p turns b;cord q turns a;");
        Check.due("both halve: the first", turned.ask(0, 0), 0);
        Check.due("two of four", turned.ask(1, 0), 2);
        CordLoft lit = Check.with("lamp a lit;lamp b;cord p turns a;");
        Check.due("one that was lit as told", lit.ask(0, 0), 0);
        Check.due("one of two", lit.ask(1, 0), 1);
        Sentence.of(55, "ASK what 0: the LAMP, 1: how many are left at the most;");
        Check.due("the first of eight", Lofts.eight().ask(0, 0), 0);
        Check.due("half of 256", Lofts.eight().ask(1, 0), 128);
        CordLoft last = Lofts.eight();
        for (int lamp = 0; lamp < 7; lamp++) {
            last.seen(lamp, true);
        }
        Check.due("the last of eight", last.ask(0, 0), 7);
        Check.due("one is left", last.ask(1, 0), 1);
        CordLoft most = Check.with("lamp a;lamp b lit;");
        Check.due("all are left", most.ask(1, 0), 1);
        Sentence.of(55, "NONE if none FITS, there are no LAMPS, or for another what.");
        most.seen(1, false);
        Check.none("ask when none fits", what -> most.ask(what, 0), 0, 1);
        Check.due("ahead of that", most.ask(0, -1), 0);
        Check.none("ask of no lamps", what -> new CordLoft().ask(what, 0), 0, 1);
        Check.none("ask", what -> x.ask(what, 0), LOW, -2, -1, 2, 3, FAR);
    }
}
