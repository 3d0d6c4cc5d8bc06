import java.util.ArrayList;
import java.util.List;

/** All that an object tells of itself, and what it becomes when it is gone on with; the object is spent by that. */
final class Trace {
    private final CordLoft x;
    private final List<String> rows = new ArrayList<>();

    private Trace(CordLoft x) {
        this.x = x;
    }

    static List<String> of(CordLoft x) {
        Trace trace = new Trace(x);
        trace.add("fault(0)", x.fault(0));
        trace.add("fault(1)", x.fault(1));
        trace.add("about(10)", x.about(10));
        trace.tellLoft();
        trace.add("loft()", x.loft());
        trace.add("fault(0) then", x.fault(0));
        trace.add("picture() then", x.picture());
        return trace.rows;
    }

    /** The same but for the tape and the fault. */
    static List<String> ofLoft(CordLoft x) {
        Trace trace = new Trace(x);
        trace.tellLoft();
        return trace.rows;
    }

    private void add(String call, int answer) {
        rows.add(call + " = " + answer);
    }

    private void tellLoft() {
        tellPlan();
        tellSight();
        for (int i = -1; i <= x.about(12); i++) {
            add("lies(" + i + ")", x.lies(i));
        }
        for (int i = 0; i < 100 && x.redo(); i++) {
            tellState("behind redo " + i);
        }
        for (int i = 0; i < 100 && x.undo(); i++) {
            tellState("behind undo " + i);
        }
        for (int box = 0; box < 3; box++) {
            add("back(" + box + ")", x.back(box));
            tellState("behind back(" + box + ")");
        }
        for (int i = 0; i < 31; i++) {
            add("seen", x.seen(0, true));
        }
    }

    private void tellPlan() {
        for (int what = 0; what < 15; what++) {
            if (what != 10) {
                add("about(" + what + ")", x.about(what));
            }
        }
        add("picture()", x.picture());
        for (int i = 0; i < x.about(0); i++) {
            for (int what = 0; what < 4; what++) {
                add("lamp(" + i + ", " + what + ")", x.lamp(i, what));
            }
        }
        for (int i = 0; i < x.about(1); i++) {
            for (int what = 0; what < 3; what++) {
                add("cord(" + i + ", " + what + ")", x.cord(i, what));
            }
        }
        add("will(1, 0)", x.will(1, 0));
    }

    private void tellSight() {
        int time = x.about(9);
        for (int k : new int[] {-1, 0, 3, time - 1, time, time + 1}) {
            add("fits(" + k + ")", x.fits(k));
            add("fit(" + k + ")", x.fit(k));
        }
    }

    private void tellState(String when) {
        add("picture() " + when, x.picture());
        for (int what = 2; what <= 7; what++) {
            add("about(" + what + ") " + when, x.about(what));
        }
    }
}
