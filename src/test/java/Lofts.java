/** Lofts that several tests use. */
final class Lofts {
    // a and c burn; x, y, z together change nothing, and none of the four cords turns an odd number
    static final String FOUR = "lamp a lit watts 5;lamp b watts 3;lamp c lit watts 2;lamp d;"
            + "cord x turns a b costs 3;cord y turns b c;cord z turns a c costs 7;cord w turns c d costs 2;"
            + "next a b;next b c;";
    // three lamps each by its own cord
    static final String SINGLE = "lamp a lit;lamp b lit watts 4;lamp c;"
            + "cord x turns a costs 2;cord y turns b costs 5;cord z turns c costs 2;";
    static final String EIGHT_LAMPS = "lamp a;lamp b;lamp c;lamp d;lamp e;lamp f;lamp g;lamp h;";
    // as many lamps and cords as there can be, each lamp by its own cord
    static final String EIGHT = EIGHT_LAMPS + "cord a turns a;cord b turns b;cord c turns c;cord d turns d;"
            + "cord e turns e;cord f turns f;cord g turns g;cord h turns h;";

    private Lofts() {
    }

    static CordLoft eight() {
        return Check.with(EIGHT);
    }

    static CordLoft four() {
        return Check.with(FOUR);
    }

    static CordLoft empty() {
        return new CordLoft();
    }

    /** One in which there is something of each kind that a refused call could spoil. */
    static CordLoft livedIn() {
        CordLoft x = Check.with(FOUR + "least 1;gusts 30;draw 9;dusk near=1 and number=1;");
        x.later(3);
        x.seen(3, true);
        x.later(2);
        x.seen(0, false);
        x.untell(0);
        x.image(0);
        x.pull(0);
        x.tie(2);
        x.image(2);
        x.dusk();
        x.pull(3);
        x.tie(0);
        x.undo();
        x.undo();
        x.steady(15);
        Check.feed(x, "lamp q lit;lamp r;");
        return x;
    }
}
