/** A loft of lamps that are turned over by cords: see README.md. */
public final class CordLoft {
    public static final int NONE = -1;

    private static final int MOST_NIGHTS = 999;
    private static final int MOST_DUSKS_AHEAD = 60;
    private static final int MOST_DUSKS_TILL_AGAIN = 300;
    private static final int MOST_DUSKS_OF_ODDS = 4;
    private static final int BOXES = 3;

    private final Tape tape;
    private final Tokens tokens;
    private final Reader reader;
    private Plan plan;
    // a text with a fault must leave the plan as it is, so each text is read into this one
    private Plan draft;
    private final Acts acts;
    private final State trial;
    private final State[] boxes;
    private int keptBoxes;
    private final Sets sets;
    private final Paths paths;
    private final Sight sight;
    private final int[] metAt;
    private int faultKind;
    private int faultPlace;

    public CordLoft() {
        tape = new Tape();
        tokens = new Tokens();
        reader = new Reader(tokens);
        plan = new Plan();
        draft = new Plan();
        acts = new Acts();
        trial = new State();
        boxes = new State[BOXES];
        for (int i = 0; i < BOXES; i++) {
            boxes[i] = new State();
        }
        keptBoxes = 0;
        sets = new Sets();
        paths = new Paths();
        sight = new Sight();
        metAt = new int[Plan.ALL_SETS];
        faultKind = 0;
        faultPlace = NONE;
    }

    public int feed(int a, int b, int c, int d, int e) {
        if (tape.size > Tape.MOST - 20) {
            return NONE;
        }
        tape.put(a);
        tape.put(b);
        tape.put(c);
        tape.put(d);
        tape.put(e);
        return tape.size;
    }

    public int end(int n) {
        if (n < 0 || n > tape.size) {
            return NONE;
        }
        tape.size = n;
        return n;
    }

    public int loft() {
        tokens.scan(tape);
        tape.size = 0;
        boolean sound = reader.read(draft);
        faultKind = reader.fault;
        faultPlace = reader.faultPlace;
        if (!sound) {
            return NONE;
        }
        Plan before = plan;
        plan = draft;
        draft = before;
        acts.current().begin(plan);
        acts.forget();
        sight.forget();
        paths.clearRow();
        keptBoxes = 0;
        return plan.lamps;
    }

    public int fault(int what) {
        return either(what, faultKind, faultPlace);
    }

    public int lamp(int lamp, int what) {
        if (!plan.hasLamp(lamp)) {
            return NONE;
        }
        switch (what) {
            case 0:
                return (acts.current().picture >> lamp) & 1;
            case 1:
                return plan.watts[lamp];
            case 2:
                return plan.turnedBy[lamp];
            case 3:
                return plan.beside[lamp];
            default:
                return NONE;
        }
    }

    public int cord(int cord, int what) {
        if (!plan.hasCord(cord)) {
            return NONE;
        }
        switch (what) {
            case 0:
                return plan.turns[cord];
            case 1:
                return plan.costs[cord];
            case 2:
                return (acts.current().tied >> cord) & 1;
            default:
                return NONE;
        }
    }

    public int picture() {
        return acts.current().picture;
    }

    public int pull(int cord) {
        if (!isFree(cord)) {
            return NONE;
        }
        int pulled = acts.current().picture ^ plan.turns[cord];
        if (Integer.bitCount(pulled) < plan.least) {
            return NONE;
        }
        State next = acts.open();
        next.picture = pulled;
        next.spent += plan.costs[cord];
        return pulled;
    }

    public int tie(int cord) {
        if (!isFree(cord)) {
            return NONE;
        }
        State next = acts.open();
        next.tied |= 1 << cord;
        return next.tied;
    }

    public int loose(int cord) {
        if (!isTied(cord)) {
            return NONE;
        }
        State next = acts.open();
        next.tied &= ~(1 << cord);
        return next.tied;
    }

    public int dusk() {
        if (acts.current().night >= MOST_NIGHTS) {
            return NONE;
        }
        State next = acts.open();
        next.passDusk(plan, true);
        return next.picture;
    }

    public boolean undo() {
        return acts.takeBack();
    }

    public boolean redo() {
        return acts.takeAgain();
    }

    public int will(int n, int what) {
        if (n < 0 || n > MOST_DUSKS_AHEAD || what < 0 || what > 1) {
            return NONE;
        }
        trial.become(acts.current());
        for (int i = 0; i < n; i++) {
            trial.passDusk(plan, what == 1);
        }
        return trial.picture;
    }

    public int can(int picture) {
        if (!plan.hasPicture(picture)) {
            return NONE;
        }
        return sets.countFor(plan, acts.current(), picture) > 0 ? 1 : 0;
    }

    public int fewest(int picture, int what) {
        int set = sets.leastFor(plan, acts.current(), picture);
        return set < 0 ? NONE : either(what, Integer.bitCount(set), set);
    }

    public int cheapest(int picture, int what) {
        int set = sets.cheapestFor(plan, acts.current(), picture);
        return set < 0 ? NONE : either(what, plan.priceOf(set), set);
    }

    public int ways(int picture) {
        return plan.hasPicture(picture) ? sets.countFor(plan, acts.current(), picture) : NONE;
    }

    public int silent(int what) {
        int set = sets.leastSilent(plan, acts.current());
        return set < 0 ? NONE : either(what, Integer.bitCount(set), set);
    }

    public int pictures() {
        return sets.reach(plan, freeCords());
    }

    public int spare() {
        int free = freeCords();
        int all = sets.reach(plan, free);
        int found = 0;
        for (int cord = 0; cord < plan.cords; cord++) {
            int bit = 1 << cord;
            if ((free & bit) != 0 && sets.reach(plan, free & ~bit) == all) {
                found |= bit;
            }
        }
        return found;
    }

    public int brightest(int what) {
        int best = sets.brightestPicture(plan, acts.current());
        return either(what, Integer.bitCount(best), best);
    }

    public int dimmest(int what) {
        int best = sets.dimmestPicture(plan, acts.current());
        return either(what, plan.wattsOf(best), best);
    }

    public int nearest(int picture, int what) {
        if (!plan.hasPicture(picture)) {
            return NONE;
        }
        int best = sets.nearestPicture(plan, acts.current(), picture);
        return either(what, Integer.bitCount(best ^ picture), best);
    }

    public int apart(int what) {
        int lamps = sets.leastDifference(plan, acts.current());
        return lamps < 0 ? NONE : either(what, Integer.bitCount(lamps), lamps);
    }

    public int mark(int what) {
        int lamps = sets.leastMark(plan, freeCords());
        return lamps < 0 ? NONE : either(what, Integer.bitCount(lamps), lamps);
    }

    public int steady(int picture) {
        paths.clearRow();
        if (!plan.hasPicture(picture)) {
            return NONE;
        }
        paths.spread(plan, acts.current());
        return paths.layRow(picture);
    }

    public int rows(int picture) {
        if (!plan.hasPicture(picture)) {
            return 0;
        }
        paths.spread(plan, acts.current());
        return paths.rowsTo[picture];
    }

    public int game(int what) {
        if (what < 0 || what > 1) {
            return NONE;
        }
        int value = sets.play(plan, acts.current());
        return what == 0 ? value : sets.opening;
    }

    public int again(int what) {
        for (int i = 0; i < metAt.length; i++) {
            metAt[i] = NONE;
        }
        trial.become(acts.current());
        for (int dusks = 0; dusks <= MOST_DUSKS_TILL_AGAIN; dusks++) {
            int shown = trial.picture;
            if (metAt[shown] >= 0) {
                return either(what, dusks, metAt[shown]);
            }
            metAt[shown] = dusks;
            trial.passDusk(plan, false);
        }
        return NONE;
    }

    public int pasts(int what) {
        State now = acts.current();
        int count = 0;
        int first = NONE;
        for (int before = 0; before < plan.allPictures(); before++) {
            if (plan.afterDusk(before, now.night) == now.picture) {
                count++;
                first = first < 0 ? before : first;
            }
        }
        return either(what, count, first);
    }

    public int still() {
        int night = acts.current().night;
        int count = 0;
        for (int before = 0; before < plan.allPictures(); before++) {
            if (plan.afterDusk(before, night) == before) {
                count++;
            }
        }
        return count;
    }

    public int knot(int cord) {
        if (!isFree(cord)) {
            return NONE;
        }
        int free = freeCords();
        return sets.reach(plan, free) - sets.reach(plan, free & ~(1 << cord));
    }

    public int more(int what) {
        int reached = sets.reach(plan, freeCords());
        if (reached == plan.allPictures()) {
            return either(what, 0, reached);
        }
        return either(what, sets.leastUnreached(plan, freeCords()), reached * 2);
    }

    public int exchange(int what) {
        if (what < 0 || what > 2) {
            return NONE;
        }
        int pair = sets.bestExchange(plan, acts.current());
        if (pair < 0) {
            return NONE;
        }
        return what == 2 ? sets.exchangedPrice : either(what, pair / Plan.MOST, pair % Plan.MOST);
    }

    public int loosen() {
        return sets.bestLoosened(plan, acts.current().tied);
    }

    public int boldest(int what) {
        State now = acts.current();
        int cord = sets.brightestPull(plan, now);
        return cord < 0 ? NONE : either(what, cord, Integer.bitCount(now.picture ^ plan.turns[cord]));
    }

    public int dearest() {
        return sets.dearestOf(plan, freeCords());
    }

    public int odd() {
        int free = freeCords();
        int found = 0;
        for (int cord = 0; cord < plan.cords; cord++) {
            if ((free >> cord & 1) != 0 && Integer.bitCount(plan.turns[cord]) % 2 == 1) {
                found |= 1 << cord;
            }
        }
        return found;
    }

    public int alike(int lamp) {
        if (!plan.hasLamp(lamp)) {
            return NONE;
        }
        return lampsTurnedBy(plan.turnedBy[lamp] & freeCords()) & ~(1 << lamp);
    }

    public int alone() {
        return lampsTurnedBy(0);
    }

    public int burning() {
        return Integer.bitCount(acts.current().picture);
    }

    public int load() {
        return plan.wattsOf(acts.current().picture);
    }

    public int longest() {
        return sets.longestOf(plan);
    }

    public int law(int n) {
        if (n < 0 || n > Plan.MOST_COST) {
            return NONE;
        }
        int free = freeCords();
        int after = acts.current().picture;
        for (int cord = 0; cord < plan.cords; cord++) {
            if ((free >> cord & 1) != 0 && plan.costs[cord] <= n) {
                after ^= plan.turns[cord];
            }
        }
        return Integer.bitCount(after);
    }

    public int odds(int n, int part) {
        if (n < 0 || n > MOST_DUSKS_OF_ODDS) {
            return NONE;
        }
        int upper = 1;
        int lower = 1;
        for (int i = 0; i < n; i++) {
            upper *= 100 - plan.gusts;
            lower *= 100;
        }
        int shared = commonDivisor(upper, lower);
        return shared < 1 ? NONE : either(part, upper / shared, lower / shared);
    }

    public int lies(int i) {
        return i < 0 || i >= paths.rowLength ? NONE : paths.row[i];
    }

    public int seen(int lamp, boolean is) {
        return plan.hasLamp(lamp) ? sight.tell(lamp, is) : NONE;
    }

    public boolean untell(int seen) {
        return sight.takeOut(seen);
    }

    public int later(int by) {
        return sight.goOn(by);
    }

    public int fits(int k) {
        sight.recall(k);
        return sight.countFitting(plan, 0, 0);
    }

    public int fit(int k) {
        sight.recall(k);
        return sight.firstFitting(plan);
    }

    public int sure(int cord, int k) {
        if (!plan.hasCord(cord)) {
            return NONE;
        }
        sight.recall(k);
        return sight.certainty(plan, cord);
    }

    public int ask(int what, int k) {
        sight.recall(k);
        int lamp = sight.bestQuestion(plan);
        return lamp < 0 ? NONE : either(what, lamp, sight.leftAtMost);
    }

    public int image(int box) {
        if (box < 0 || box >= BOXES) {
            return NONE;
        }
        State now = acts.current();
        boxes[box].become(now);
        keptBoxes |= 1 << box;
        return now.picture;
    }

    public int back(int box) {
        if (box < 0 || box >= BOXES || (keptBoxes >> box & 1) == 0) {
            return NONE;
        }
        State now = acts.current();
        now.become(boxes[box]);
        acts.forget();
        return boxes[box].picture;
    }

    public int about(int what) {
        State now = acts.current();
        switch (what) {
            case 0:
                return plan.lamps;
            case 1:
                return plan.cords;
            case 2:
                return now.tied;
            case 3:
                return now.spent;
            case 4:
                return now.night;
            case 5:
                return now.seed;
            case 6:
                return acts.done;
            case 7:
                return acts.kept - acts.done;
            case 8:
                return sight.count;
            case 9:
                return sight.time;
            case 10:
                return tape.size;
            case 11:
                return plan.formula.units;
            case 12:
                return paths.rowLength;
            case 13:
                return plan.least;
            case 14:
                return plan.gusts;
            default:
                return NONE;
        }
    }

    private static int either(int what, int first, int second) {
        if (what == 0) {
            return first;
        }
        return what == 1 ? second : NONE;
    }

    private static int commonDivisor(int a, int b) {
        int greater = a;
        int rest = b;
        // Euclid's steps on ints are never near a hundred
        for (int i = 0; i < 100 && rest != 0; i++) {
            int next = greater % rest;
            greater = rest;
            rest = next;
        }
        return greater;
    }

    private int freeCords() {
        return plan.allCords() & ~acts.current().tied;
    }

    private boolean isFree(int cord) {
        return plan.hasCord(cord) && (acts.current().tied >> cord & 1) == 0;
    }

    private boolean isTied(int cord) {
        return plan.hasCord(cord) && (acts.current().tied >> cord & 1) != 0;
    }

    private int lampsTurnedBy(int cords) {
        int free = freeCords();
        int found = 0;
        for (int lamp = 0; lamp < plan.lamps; lamp++) {
            if ((plan.turnedBy[lamp] & free) == cords) {
                found |= 1 << lamp;
            }
        }
        return found;
    }

    /** The bytes that were fed and not yet read. */
    private static final class Tape {
        static final int MOST = 1600;

        final byte[] bytes = new byte[MOST];
        int size;

        void put(int number) {
            for (int shift = 24; shift >= 0 && size < MOST; shift -= 8) {
                bytes[size] = (byte) (number >> shift);
                size++;
            }
        }

        /** The byte at a place, or NONE beyond the end. */
        int at(int place) {
            return place >= 0 && place < size ? bytes[place] & 255 : NONE;
        }
    }

    /** A tape cut into tokens, up to its end or to the first place where there is none. */
    private static final class Tokens {
        static final int END = 0;
        static final int WRONG = 1;
        static final int NAME = 2;
        static final int NUMBER = 3;
        // a sign's kind is its own byte, a kept word's kind is its row in WORDS from here on
        static final int FIRST_WORD = 128;
        static final int LAMP = 128;
        static final int CORD = 129;
        static final int NEXT = 130;
        static final int DUSK = 131;
        static final int LEAST = 132;
        static final int GUSTS = 133;
        static final int DRAW = 134;
        static final int TURNS = 135;
        static final int COSTS = 136;
        static final int OR = 137;
        static final int AND = 138;
        static final int NOT = 139;
        // these six stand for numbers in a formula, in the order of Formula's given row
        static final int LIT = 140;
        static final int NEAR = 141;
        static final int CORDS = 142;
        static final int ITS_NUMBER = 143;
        static final int WATTS = 144;
        static final int NIGHT = 145;

        private static final int LETTERS = 8;
        private static final int DIGITS = 4;
        private static final int WORD_COUNT = 18;
        private static final String WORDS =
                "lamp    cord    next    dusk    least   gusts   draw    turns   costs   or      and     not     lit     near    cords   number  watts   night   ";
        private static final String SIGNS = ";()<>=+-*/%";

        private final int[] kinds = new int[Tape.MOST + 1];
        private final int[] starts = new int[Tape.MOST + 1];
        // a number as it is, a name's letters packed five bits each
        private final long[] worths = new long[Tape.MOST + 1];
        private int count;
        private int current;
        private int place;
        // of the current token
        int kind;
        int start;
        long worth;

        void scan(Tape tape) {
            count = 0;
            place = 0;
            int latest = NAME;
            // the last of these is the end or no token, and stays current for good
            for (int i = 0; i <= Tape.MOST && latest != END && latest != WRONG; i++) {
                skipBlanks(tape);
                starts[i] = place;
                worths[i] = 0;
                latest = take(tape, i);
                kinds[i] = latest;
                count = i + 1;
            }
            current = NONE;
            step();
        }

        void step() {
            if (current + 1 < count) {
                current++;
                kind = kinds[current];
                start = starts[current];
                worth = worths[current];
            }
        }

        private void skipBlanks(Tape tape) {
            for (int i = 0; i < Tape.MOST && (tape.at(place) == ' ' || tape.at(place) == 10); i++) {
                place++;
            }
        }

        private int take(Tape tape, int index) {
            int sign = tape.at(place);
            if (sign < 0) {
                return END;
            }
            if (isLetter(sign)) {
                return takeWord(tape, index);
            }
            if (isDigit(sign)) {
                return takeNumber(tape, index);
            }
            place++;
            return SIGNS.indexOf((char) sign) >= 0 ? sign : WRONG;
        }

        private int takeWord(Tape tape, int index) {
            int from = place;
            long packed = 0;
            for (int i = 0; i < Tape.MOST && isLetter(tape.at(place)); i++) {
                packed = packed * 32 + (tape.at(place) - 'a' + 1);
                place++;
            }
            worths[index] = packed;
            return place - from > LETTERS ? WRONG : kindOfWord(tape, from, place - from);
        }

        private static int kindOfWord(Tape tape, int from, int length) {
            for (int word = 0; word < WORD_COUNT; word++) {
                boolean same = true;
                for (int i = 0; i < LETTERS && same; i++) {
                    int letter = i < length ? tape.at(from + i) : ' ';
                    same = WORDS.charAt(word * LETTERS + i) == letter;
                }
                if (same) {
                    return FIRST_WORD + word;
                }
            }
            return NAME;
        }

        private int takeNumber(Tape tape, int index) {
            int from = place;
            long told = 0;
            for (int i = 0; i < Tape.MOST && isDigit(tape.at(place)); i++) {
                told = told * 10 + (tape.at(place) - '0');
                place++;
            }
            worths[index] = told;
            return place - from > DIGITS || isLetter(tape.at(place)) ? WRONG : NUMBER;
        }

        private static boolean isLetter(int sign) {
            return sign >= 'a' && sign <= 'z';
        }

        private static boolean isDigit(int sign) {
            return sign >= '0' && sign <= '9';
        }
    }

    /** Reads tokens into a plan, up to the first fault. */
    private static final class Reader {
        private static final int CANNOT_STAND = 2;
        private static final int TOLD_ALREADY = 3;
        private static final int NO_SUCH_NUMBER = 4;
        private static final int NO_SUCH_LAMP = 5;

        private static final int MOST_WATTS = 99;
        private static final int MOST_LEAST = 8;
        private static final int MOST_GUSTS = 100;
        private static final int MOST_DRAW = 999;
        private static final int MOST_WITHIN = 7;

        // what binds tighter has the higher level
        private static final int OR_LEVEL = 0;
        private static final int AND_LEVEL = 1;
        private static final int ONE_LEVEL = 2;
        private static final int SUM_LEVEL = 3;
        private static final int TERM_LEVEL = 4;
        private static final int UNIT_LEVEL = 5;

        private final Tokens tokens;
        private Plan plan;
        private int toldOnce;
        private int number;
        int fault;
        int faultPlace;

        Reader(Tokens tokens) {
            this.tokens = tokens;
        }

        boolean read(Plan into) {
            plan = into;
            plan.clear();
            toldOnce = 0;
            fault = 0;
            faultPlace = NONE;
            for (int i = 0; i <= Tape.MOST && tokens.kind != Tokens.END; i++) {
                if (!readLine()) {
                    return false;
                }
            }
            plan.settle();
            return true;
        }

        private boolean readLine() {
            boolean sound;
            switch (tokens.kind) {
                case Tokens.LAMP:
                    sound = readLamp();
                    break;
                case Tokens.CORD:
                    sound = readCord();
                    break;
                case Tokens.NEXT:
                    sound = readNext();
                    break;
                case Tokens.DUSK:
                    sound = beginOnce() && readJoined(OR_LEVEL, 0);
                    break;
                case Tokens.LEAST:
                    sound = beginOnce() && readNumber(MOST_LEAST);
                    plan.least = number;
                    break;
                case Tokens.GUSTS:
                    sound = beginOnce() && readNumber(MOST_GUSTS);
                    plan.gusts = number;
                    break;
                case Tokens.DRAW:
                    sound = beginOnce() && readNumber(MOST_DRAW);
                    plan.draw = number;
                    break;
                default:
                    sound = refuse(CANNOT_STAND);
            }
            return sound && expect(';');
        }

        private boolean readLamp() {
            if (plan.lamps >= Plan.MOST) {
                return refuse(CANNOT_STAND);
            }
            tokens.step();
            if (tokens.kind != Tokens.NAME) {
                return refuse(CANNOT_STAND);
            }
            if (plan.lampNamed(tokens.worth) >= 0) {
                return refuse(TOLD_ALREADY);
            }
            int lamp = plan.addLamp(tokens.worth);
            tokens.step();
            if (tokens.kind == Tokens.LIT) {
                plan.lit |= 1 << lamp;
                tokens.step();
            }
            if (tokens.kind == Tokens.WATTS) {
                tokens.step();
                if (!readNumber(MOST_WATTS)) {
                    return false;
                }
                plan.watts[lamp] = number;
            }
            return true;
        }

        private boolean readCord() {
            if (plan.cords >= Plan.MOST) {
                return refuse(CANNOT_STAND);
            }
            tokens.step();
            if (tokens.kind != Tokens.NAME) {
                return refuse(CANNOT_STAND);
            }
            if (plan.hasCordNamed(tokens.worth)) {
                return refuse(TOLD_ALREADY);
            }
            int cord = plan.addCord(tokens.worth);
            tokens.step();
            if (!expect(Tokens.TURNS) || !readTurned(cord)) {
                return false;
            }
            if (tokens.kind == Tokens.COSTS) {
                tokens.step();
                if (!readNumber(Plan.MOST_COST)) {
                    return false;
                }
                plan.costs[cord] = number;
            }
            return true;
        }

        private boolean readTurned(int cord) {
            // each lamp but once, so one more name than there can be lamps is a fault
            for (int i = 0; i <= Plan.MOST; i++) {
                if (i > 0 && tokens.kind != Tokens.NAME) {
                    return true;
                }
                int lamp = knownLamp();
                if (lamp < 0) {
                    return false;
                }
                if ((plan.turns[cord] >> lamp & 1) != 0) {
                    return refuse(TOLD_ALREADY);
                }
                plan.turns[cord] |= 1 << lamp;
                tokens.step();
            }
            return true;
        }

        private boolean readNext() {
            tokens.step();
            int one = knownLamp();
            if (one < 0) {
                return false;
            }
            tokens.step();
            int other = knownLamp();
            if (other < 0) {
                return false;
            }
            if (one == other || (plan.beside[one] >> other & 1) != 0) {
                return refuse(TOLD_ALREADY);
            }
            plan.beside[one] |= 1 << other;
            plan.beside[other] |= 1 << one;
            tokens.step();
            return true;
        }

        private boolean beginOnce() {
            int bit = 1 << (tokens.kind - Tokens.FIRST_WORD);
            if ((toldOnce & bit) != 0) {
                return refuse(CANNOT_STAND);
            }
            toldOnce |= bit;
            tokens.step();
            return true;
        }

        /** or, and, sums and terms: parts of the next level, joined from the left. */
        private boolean readJoined(int level, int within) {
            if (level == ONE_LEVEL) {
                return readOne(within);
            }
            if (level >= UNIT_LEVEL) {
                return readUnit(within);
            }
            if (!readJoined(level + 1, within)) {
                return false;
            }
            for (int i = 0; i < Formula.MOST_UNITS && levelOf(tokens.kind) == level; i++) {
                int joint = tokens.kind;
                tokens.step();
                if (!readJoined(level + 1, within)) {
                    return false;
                }
                plan.formula.put(-joint);
            }
            return true;
        }

        private static int levelOf(int kind) {
            switch (kind) {
                case Tokens.OR:
                    return OR_LEVEL;
                case Tokens.AND:
                    return AND_LEVEL;
                case '+':
                case '-':
                    return SUM_LEVEL;
                case '*':
                case '/':
                case '%':
                    return TERM_LEVEL;
                default:
                    return NONE;
            }
        }

        private boolean readOne(int within) {
            if (tokens.kind == Tokens.NOT) {
                if (within >= MOST_WITHIN) {
                    return refuse(CANNOT_STAND);
                }
                tokens.step();
                if (!readOne(within + 1)) {
                    return false;
                }
                plan.formula.put(-Tokens.NOT);
                return true;
            }
            if (!readJoined(SUM_LEVEL, within)) {
                return false;
            }
            int relation = tokens.kind;
            if (relation != '<' && relation != '>' && relation != '=') {
                return true;
            }
            tokens.step();
            if (!readJoined(SUM_LEVEL, within)) {
                return false;
            }
            plan.formula.put(-relation);
            return true;
        }

        private boolean readUnit(int within) {
            int kind = tokens.kind;
            boolean isGiven = kind >= Tokens.LIT && kind <= Tokens.NIGHT;
            boolean canBegin = isGiven || kind == Tokens.NUMBER || kind == '(' && within < MOST_WITHIN;
            if (!canBegin || plan.formula.units >= Formula.MOST_UNITS) {
                return refuse(CANNOT_STAND);
            }
            plan.formula.units++;
            if (kind == '(') {
                tokens.step();
                return readJoined(OR_LEVEL, within + 1) && expect(')');
            }
            plan.formula.put(isGiven ? -kind : (int) tokens.worth);
            tokens.step();
            return true;
        }

        private boolean readNumber(int most) {
            if (tokens.kind != Tokens.NUMBER) {
                return refuse(CANNOT_STAND);
            }
            if (tokens.worth > most) {
                return refuse(NO_SUCH_NUMBER);
            }
            number = (int) tokens.worth;
            tokens.step();
            return true;
        }

        /** The lamp whose name stands here, or NONE behind a fault. */
        private int knownLamp() {
            if (tokens.kind != Tokens.NAME) {
                refuse(CANNOT_STAND);
                return NONE;
            }
            int lamp = plan.lampNamed(tokens.worth);
            if (lamp < 0) {
                refuse(NO_SUCH_LAMP);
            }
            return lamp;
        }

        private boolean expect(int kind) {
            if (tokens.kind != kind) {
                return refuse(CANNOT_STAND);
            }
            tokens.step();
            return true;
        }

        /** Notes a fault at the current token; what is no token at all is the lesser fault there. */
        private boolean refuse(int kind) {
            fault = tokens.kind == Tokens.WRONG ? 1 : kind;
            faultPlace = tokens.start;
            return false;
        }
    }

    /** What a dusk reckons: steps in the order in which they are done, on a stack. */
    private static final class Formula {
        static final int MOST_UNITS = 30;
        // thirty units, what joins them, and seven nots ahead of each
        private static final int MOST_STEPS = MOST_UNITS * 9;
        private static final int GIVEN = 6;

        // a number that is told as it is, else the kind of a token with a minus
        private final int[] steps = new int[MOST_STEPS];
        private int length;
        private final int[] stack = new int[MOST_UNITS + 1];
        private final int[] given = new int[GIVEN];
        int units;

        void clear() {
            length = 0;
            units = 0;
        }

        boolean isEmpty() {
            return length == 0;
        }

        void put(int step) {
            if (length < MOST_STEPS) {
                steps[length] = step;
                length++;
            }
        }

        void give(int kind, int worth) {
            int index = kind - Tokens.LIT;
            if (index >= 0 && index < GIVEN) {
                given[index] = worth;
            }
        }

        int worth() {
            int height = 0;
            for (int i = 0; i < length; i++) {
                int step = steps[i];
                if (step >= 0 || step <= -Tokens.LIT) {
                    if (height < stack.length) {
                        stack[height] = step >= 0 ? step : givenFor(-step);
                        height++;
                    }
                } else if (step == -Tokens.NOT) {
                    if (height > 0) {
                        stack[height - 1] = stack[height - 1] == 0 ? 1 : 0;
                    }
                } else if (height > 1) {
                    height--;
                    stack[height - 1] = join(-step, stack[height - 1], stack[height]);
                }
            }
            return height > 0 ? stack[0] : 0;
        }

        private int givenFor(int kind) {
            int index = kind - Tokens.LIT;
            return index >= 0 && index < GIVEN ? given[index] : 0;
        }

        private static int join(int kind, int a, int b) {
            switch (kind) {
                case '+':
                    return a + b;
                case '-':
                    return a - b;
                case '*':
                    return a * b;
                case '/':
                    return b == 0 ? 0 : a / b;
                case '%':
                    return b == 0 ? 0 : a % b;
                case '<':
                    return a < b ? 1 : 0;
                case '>':
                    return a > b ? 1 : 0;
                case '=':
                    return a == b ? 1 : 0;
                case Tokens.AND:
                    return a != 0 && b != 0 ? 1 : 0;
                case Tokens.OR:
                    return a != 0 || b != 0 ? 1 : 0;
                default:
                    return 0;
            }
        }
    }

    /** The loft as its text tells it. */
    private static final class Plan {
        static final int MOST = 8;
        static final int ALL_SETS = 1 << MOST;
        static final int MOST_COST = 20;
        // by the lamp, whether it is lit, and how many of the others are lit next to it
        private static final int CASES = MOST * 2 * MOST;

        int lamps;
        int lit;
        private final long[] lampNames = new long[MOST];
        final int[] watts = new int[MOST];
        final int[] turnedBy = new int[MOST];
        final int[] beside = new int[MOST];
        int cords;
        private final long[] cordNames = new long[MOST];
        final int[] turns = new int[MOST];
        final int[] costs = new int[MOST];
        // which lamps a set of cords turns, each pulled once; none by none
        final int[] turnsOfSet = new int[ALL_SETS];
        final Formula formula = new Formula();
        // all pictures share a few cases of a lamp at a dusk, so each is reckoned but once a night
        private final int[] reckonedFor = new int[CASES];
        private final boolean[] turnsByItself = new boolean[CASES];
        int least;
        int gusts;
        int draw;

        void clear() {
            lamps = 0;
            lit = 0;
            cords = 0;
            formula.clear();
            least = 0;
            gusts = 0;
            draw = 0;
        }

        int addLamp(long name) {
            int lamp = lamps;
            if (lamp < MOST) {
                lampNames[lamp] = name;
                watts[lamp] = 1;
                turnedBy[lamp] = 0;
                beside[lamp] = 0;
                lamps++;
            }
            return lamp;
        }

        int addCord(long name) {
            int cord = cords;
            if (cord < MOST) {
                cordNames[cord] = name;
                turns[cord] = 0;
                costs[cord] = 1;
                cords++;
            }
            return cord;
        }

        int lampNamed(long name) {
            for (int lamp = 0; lamp < lamps; lamp++) {
                if (lampNames[lamp] == name) {
                    return lamp;
                }
            }
            return NONE;
        }

        boolean hasCordNamed(long name) {
            for (int cord = 0; cord < cords; cord++) {
                if (cordNames[cord] == name) {
                    return true;
                }
            }
            return false;
        }

        /** Works out what follows from lamps and cords, when all of them are told. */
        void settle() {
            for (int i = 0; i < CASES; i++) {
                reckonedFor[i] = NONE;
            }
            for (int cord = 0; cord < cords; cord++) {
                for (int lamp = 0; lamp < lamps; lamp++) {
                    turnedBy[lamp] |= (turns[cord] >> lamp & 1) << cord;
                }
                int half = 1 << cord;
                for (int set = 0; set < half; set++) {
                    turnsOfSet[half + set] = turnsOfSet[set] ^ turns[cord];
                }
            }
        }

        boolean hasLamp(int lamp) {
            return lamp >= 0 && lamp < lamps;
        }

        boolean hasCord(int cord) {
            return cord >= 0 && cord < cords;
        }

        boolean hasPicture(int picture) {
            return picture >= 0 && picture < allPictures();
        }

        int allPictures() {
            return 1 << lamps;
        }

        /** All cords, as bits; also the greatest set of them. */
        int allCords() {
            return (1 << cords) - 1;
        }

        int wattsOf(int picture) {
            int sum = 0;
            for (int lamp = 0; lamp < lamps; lamp++) {
                sum += (picture >> lamp & 1) * watts[lamp];
            }
            return sum;
        }

        int priceOf(int set) {
            int sum = 0;
            for (int cord = 0; cord < cords; cord++) {
                sum += (set >> cord & 1) * costs[cord];
            }
            return sum;
        }

        /** What a picture becomes by a dusk without a gust. */
        int afterDusk(int picture, int night) {
            if (formula.isEmpty()) {
                return picture;
            }
            int after = picture;
            for (int lamp = 0; lamp < lamps; lamp++) {
                int isLit = picture >> lamp & 1;
                int near = Integer.bitCount(picture & beside[lamp]);
                int index = (lamp * 2 + isLit) * MOST + near;
                if (reckonedFor[index] != night) {
                    reckonedFor[index] = night;
                    turnsByItself[index] = duskWorth(lamp, isLit, near, night) > 0;
                }
                if (turnsByItself[index]) {
                    after ^= 1 << lamp;
                }
            }
            return after;
        }

        private int duskWorth(int lamp, int isLit, int near, int night) {
            formula.give(Tokens.LIT, isLit);
            formula.give(Tokens.NEAR, near);
            formula.give(Tokens.CORDS, Integer.bitCount(turnedBy[lamp]));
            formula.give(Tokens.ITS_NUMBER, lamp);
            formula.give(Tokens.WATTS, watts[lamp]);
            formula.give(Tokens.NIGHT, night);
            return formula.worth();
        }
    }

    /** All that acts change. */
    private static final class State {
        int picture;
        int tied;
        int spent;
        int night;
        int seed;

        void begin(Plan plan) {
            picture = plan.lit;
            tied = 0;
            spent = 0;
            night = 0;
            seed = plan.draw;
        }

        void become(State other) {
            picture = other.picture;
            tied = other.tied;
            spent = other.spent;
            night = other.night;
            seed = other.seed;
        }

        void passDusk(Plan plan, boolean withGusts) {
            picture = plan.afterDusk(picture, night);
            seed = (seed * 137 + 71) % 1000;
            if (withGusts && plan.lamps > 0 && seed % 100 < plan.gusts) {
                picture ^= 1 << (seed % plan.lamps);
            }
            night++;
        }
    }

    /** The states behind each act that is kept; the first one is ahead of them all. */
    private static final class Acts {
        private static final int MOST_KEPT = 40;

        private final State[] states;
        int done;
        int kept;

        Acts() {
            states = new State[MOST_KEPT + 1];
            for (int i = 0; i <= MOST_KEPT; i++) {
                states[i] = new State();
            }
        }

        State current() {
            return states[done];
        }

        /** Begins an act: a state like the current one, which is current from now on. */
        State open() {
            if (done >= MOST_KEPT) {
                dropOldest();
            }
            State before = states[done];
            done++;
            kept = done;
            states[done].become(before);
            return states[done];
        }

        void forget() {
            State now = states[done];
            states[done] = states[0];
            states[0] = now;
            done = 0;
            kept = 0;
        }

        boolean takeBack() {
            if (done <= 0) {
                return false;
            }
            done--;
            return true;
        }

        boolean takeAgain() {
            if (done >= kept) {
                return false;
            }
            done++;
            return true;
        }

        private void dropOldest() {
            State oldest = states[0];
            for (int i = 0; i < MOST_KEPT; i++) {
                states[i] = states[i + 1];
            }
            states[MOST_KEPT] = oldest;
            done = MOST_KEPT - 1;
        }
    }

    /** The best of what is offered: that of the least score, of like ones the least. */
    private static final class Best {
        int score;
        int pick;

        void clear() {
            score = 0;
            pick = NONE;
        }

        void offer(int itsScore, int itself) {
            if (pick < 0 || itsScore < score || itsScore == score && itself < pick) {
                score = itsScore;
                pick = itself;
            }
        }
    }

    /** What sets of free cords bring about. */
    private static final class Sets {
        private final Best best = new Best();
        private final int[] values = new int[Plan.ALL_SETS];
        private final int[] darkSets = new int[Plan.ALL_SETS];
        private final int[] darkPrices = new int[Plan.ALL_SETS];
        private final int[] basis = new int[Plan.MOST];
        int opening;
        int exchangedPrice;

        int countFor(Plan plan, State now, int picture) {
            int count = 0;
            for (int set = 0; set <= plan.allCords(); set++) {
                if ((set & now.tied) == 0 && (now.picture ^ plan.turnsOfSet[set]) == picture) {
                    count++;
                }
            }
            return count;
        }

        int leastFor(Plan plan, State now, int picture) {
            best.clear();
            for (int set = 0; set <= plan.allCords(); set++) {
                if ((set & now.tied) == 0 && (now.picture ^ plan.turnsOfSet[set]) == picture) {
                    best.offer(Integer.bitCount(set), set);
                }
            }
            return best.pick;
        }

        int cheapestFor(Plan plan, State now, int picture) {
            best.clear();
            for (int set = 0; set <= plan.allCords(); set++) {
                if ((set & now.tied) == 0 && (now.picture ^ plan.turnsOfSet[set]) == picture) {
                    // the price comes first, and how many there are is always below 16
                    best.offer(plan.priceOf(set) * 16 + Integer.bitCount(set), set);
                }
            }
            return best.pick;
        }

        int leastSilent(Plan plan, State now) {
            best.clear();
            for (int set = 1; set <= plan.allCords(); set++) {
                if ((set & now.tied) == 0 && plan.turnsOfSet[set] == 0) {
                    best.offer(Integer.bitCount(set), set);
                }
            }
            return best.pick;
        }

        int brightestPicture(Plan plan, State now) {
            best.clear();
            for (int set = 0; set <= plan.allCords(); set++) {
                if ((set & now.tied) == 0) {
                    int shown = now.picture ^ plan.turnsOfSet[set];
                    best.offer(-Integer.bitCount(shown), shown);
                }
            }
            return best.pick;
        }

        int dimmestPicture(Plan plan, State now) {
            best.clear();
            for (int set = 0; set <= plan.allCords(); set++) {
                if ((set & now.tied) == 0) {
                    int shown = now.picture ^ plan.turnsOfSet[set];
                    best.offer(plan.wattsOf(shown), shown);
                }
            }
            return best.pick;
        }

        int nearestPicture(Plan plan, State now, int picture) {
            best.clear();
            for (int set = 0; set <= plan.allCords(); set++) {
                if ((set & now.tied) == 0) {
                    int shown = now.picture ^ plan.turnsOfSet[set];
                    best.offer(Integer.bitCount(shown ^ picture), shown);
                }
            }
            return best.pick;
        }

        /** Two pictures that can be differ by what some free cords turn, and by nothing else. */
        int leastDifference(Plan plan, State now) {
            best.clear();
            for (int set = 1; set <= plan.allCords(); set++) {
                int turned = plan.turnsOfSet[set];
                if ((set & now.tied) == 0 && turned != 0) {
                    best.offer(Integer.bitCount(turned), turned);
                }
            }
            return best.pick;
        }

        int leastMark(Plan plan, int free) {
            best.clear();
            for (int lamps = 1; lamps < plan.allPictures(); lamps++) {
                boolean even = true;
                for (int cord = 0; cord < plan.cords && even; cord++) {
                    even = (free >> cord & 1) == 0 || Integer.bitCount(plan.turns[cord] & lamps) % 2 == 0;
                }
                if (even) {
                    best.offer(Integer.bitCount(lamps), lamps);
                }
            }
            return best.pick;
        }

        /** How many pictures can be by these cords. */
        int reach(Plan plan, int cords) {
            for (int i = 0; i < Plan.MOST; i++) {
                basis[i] = 0;
            }
            int count = 1;
            for (int cord = 0; cord < plan.cords; cord++) {
                int rest = (cords >> cord & 1) == 0 ? 0 : restOf(plan.turns[cord]);
                if (rest != 0) {
                    basis[Integer.numberOfTrailingZeros(rest) % Plan.MOST] = rest;
                    count *= 2;
                }
            }
            return count;
        }

        int leastUnreached(Plan plan, int cords) {
            reach(plan, cords);
            for (int lamps = 1; lamps < plan.allPictures(); lamps++) {
                if (restOf(lamps) != 0) {
                    return lamps;
                }
            }
            return 0;
        }

        /** What is left of some lamps when the basis has taken away all that it can. */
        private int restOf(int lamps) {
            int rest = lamps;
            for (int lamp = 0; lamp < Plan.MOST; lamp++) {
                if ((rest >> lamp & 1) != 0 && basis[lamp] != 0) {
                    rest ^= basis[lamp];
                }
            }
            return rest;
        }

        /** The value to who begins; the first cord that brings it is the opening then. */
        int play(Plan plan, State now) {
            int free = plan.allCords() & ~now.tied;
            opening = NONE;
            for (int pulled = free; pulled >= 0; pulled--) {
                if ((pulled & ~free) == 0) {
                    values[pulled] = valueBehind(plan, now, pulled);
                }
            }
            return values[0];
        }

        private int valueBehind(Plan plan, State now, int pulled) {
            best.clear();
            for (int cord = 0; cord < plan.cords; cord++) {
                int bit = 1 << cord;
                if (((pulled | now.tied) & bit) == 0) {
                    boolean won = (now.picture ^ plan.turnsOfSet[pulled | bit]) == 0;
                    best.offer(won ? -1 : values[pulled | bit], cord);
                }
            }
            opening = best.pick;
            // scored by what is left to the other one
            return best.pick < 0 ? 0 : -best.score;
        }

        /** The two cords as eight times the first one and the other one. */
        int bestExchange(Plan plan, State now) {
            int count = 0;
            int priceNow = Integer.MAX_VALUE;
            for (int set = 0; set <= plan.allCords(); set++) {
                if ((set & now.tied) == 0 && plan.turnsOfSet[set] == now.picture) {
                    darkSets[count] = set;
                    darkPrices[count] = plan.priceOf(set);
                    priceNow = Math.min(priceNow, darkPrices[count]);
                    count++;
                }
            }
            best.clear();
            for (int one = 0; one < plan.cords; one++) {
                for (int other = one + 1; other < plan.cords; other++) {
                    int price = leastExchanged(plan, count, one, other);
                    if (price < priceNow) {
                        best.offer(price, one * Plan.MOST + other);
                    }
                }
            }
            exchangedPrice = best.score;
            return best.pick;
        }

        private int leastExchanged(Plan plan, int count, int one, int other) {
            int gain = plan.costs[other] - plan.costs[one];
            int least = Integer.MAX_VALUE;
            for (int i = 0; i < count; i++) {
                int hasOne = darkSets[i] >> one & 1;
                int hasOther = darkSets[i] >> other & 1;
                least = Math.min(least, darkPrices[i] + (hasOne - hasOther) * gain);
            }
            return least;
        }

        int bestLoosened(Plan plan, int tied) {
            int free = plan.allCords() & ~tied;
            best.clear();
            for (int cord = 0; cord < plan.cords; cord++) {
                if ((tied >> cord & 1) != 0) {
                    best.offer(-reach(plan, free | 1 << cord), cord);
                }
            }
            return best.pick;
        }

        int brightestPull(Plan plan, State now) {
            best.clear();
            for (int cord = 0; cord < plan.cords; cord++) {
                if ((now.tied >> cord & 1) == 0) {
                    best.offer(-Integer.bitCount(now.picture ^ plan.turns[cord]), cord);
                }
            }
            return best.pick;
        }

        int dearestOf(Plan plan, int free) {
            best.clear();
            for (int cord = 0; cord < plan.cords; cord++) {
                if ((free >> cord & 1) != 0) {
                    best.offer(-plan.costs[cord], cord);
                }
            }
            return best.pick;
        }

        int longestOf(Plan plan) {
            best.clear();
            for (int cord = 0; cord < plan.cords; cord++) {
                best.offer(-Integer.bitCount(plan.turns[cord]), cord);
            }
            return best.pick;
        }
    }

    /** Pulls one behind the other, behind each of which enough lamps are lit. */
    private static final class Paths {
        private final int[] pullsTo = new int[Plan.ALL_SETS];
        private final int[] cameFrom = new int[Plan.ALL_SETS];
        private final int[] cameBy = new int[Plan.ALL_SETS];
        private final int[] queue = new int[Plan.ALL_SETS];
        private int queued;
        final int[] rowsTo = new int[Plan.ALL_SETS];
        final int[] row = new int[Plan.ALL_SETS];
        int rowLength;

        void clearRow() {
            rowLength = 0;
        }

        /**
         * Goes from the current picture to all others, the nearest first. Those that are as near stand in the queue
         * in the order of their first rows, so who first comes to a picture comes by its first row.
         */
        void spread(Plan plan, State now) {
            for (int i = 0; i < Plan.ALL_SETS; i++) {
                pullsTo[i] = NONE;
                rowsTo[i] = 0;
            }
            pullsTo[now.picture] = 0;
            rowsTo[now.picture] = 1;
            queue[0] = now.picture;
            queued = 1;
            for (int i = 0; i < queued && i < Plan.ALL_SETS; i++) {
                for (int cord = 0; cord < plan.cords; cord++) {
                    int next = queue[i] ^ plan.turns[cord];
                    if ((now.tied >> cord & 1) == 0 && Integer.bitCount(next) >= plan.least) {
                        come(queue[i], cord, next);
                    }
                }
            }
        }

        private void come(int from, int cord, int next) {
            if (pullsTo[next] < 0 && queued < Plan.ALL_SETS) {
                pullsTo[next] = pullsTo[from] + 1;
                cameFrom[next] = from;
                cameBy[next] = cord;
                queue[queued] = next;
                queued++;
            }
            if (pullsTo[next] == pullsTo[from] + 1) {
                rowsTo[next] += rowsTo[from];
            }
        }

        /** Lays down the cords of the first row to a picture: how many, or NONE. */
        int layRow(int picture) {
            int pulls = pullsTo[picture];
            rowLength = Math.max(pulls, 0);
            int at = picture;
            for (int i = rowLength - 1; i >= 0; i--) {
                row[i] = cameBy[at];
                at = cameFrom[at];
            }
            return pulls;
        }
    }

    /** What was seen, when it was told and untold, and which cords can have been pulled then. */
    private static final class Sight {
        private static final int MOST_SEEN = 30;
        private static final int MOST_LATER = 1000;
        private static final int MOST_TIME = 100000;
        private static final int UNSURE = -2;

        private final int[] lamps = new int[MOST_SEEN];
        private final boolean[] lit = new boolean[MOST_SEEN];
        private final int[] toldAt = new int[MOST_SEEN];
        private final int[] untoldAt = new int[MOST_SEEN];
        private int mustBeLit;
        private int mustBeDark;
        int count;
        int time;
        int leftAtMost;

        void forget() {
            count = 0;
        }

        int tell(int lamp, boolean is) {
            if (count >= MOST_SEEN) {
                return NONE;
            }
            lamps[count] = lamp;
            lit[count] = is;
            toldAt[count] = time;
            untoldAt[count] = NONE;
            count++;
            return count - 1;
        }

        boolean takeOut(int number) {
            if (number < 0 || number >= count || untoldAt[number] >= 0) {
                return false;
            }
            untoldAt[number] = time;
            return true;
        }

        int goOn(int by) {
            if (by < 0 || by > MOST_LATER || time + by > MOST_TIME) {
                return NONE;
            }
            time += by;
            return time;
        }

        /** Gathers what counts as known at a time. */
        void recall(int known) {
            mustBeLit = 0;
            mustBeDark = 0;
            for (int i = 0; i < count; i++) {
                boolean untold = untoldAt[i] >= 0 && untoldAt[i] <= known;
                if (toldAt[i] <= known && !untold) {
                    int bit = 1 << lamps[i];
                    mustBeLit |= lit[i] ? bit : 0;
                    mustBeDark |= lit[i] ? 0 : bit;
                }
            }
        }

        private boolean isFitting(Plan plan, int set) {
            int shown = plan.lit ^ plan.turnsOfSet[set];
            return (shown & mustBeLit) == mustBeLit && (shown & mustBeDark) == 0;
        }

        /** How many sets fit that have these cords and light these lamps as well. */
        int countFitting(Plan plan, int cords, int lampsLit) {
            int found = 0;
            for (int set = 0; set <= plan.allCords(); set++) {
                int shown = plan.lit ^ plan.turnsOfSet[set];
                if ((set & cords) == cords && (shown & lampsLit) == lampsLit && isFitting(plan, set)) {
                    found++;
                }
            }
            return found;
        }

        int firstFitting(Plan plan) {
            for (int set = 0; set <= plan.allCords(); set++) {
                if (isFitting(plan, set)) {
                    return set;
                }
            }
            return NONE;
        }

        int certainty(Plan plan, int cord) {
            int all = countFitting(plan, 0, 0);
            if (all == 0) {
                return NONE;
            }
            int having = countFitting(plan, 1 << cord, 0);
            if (having == all) {
                return 1;
            }
            return having == 0 ? 0 : UNSURE;
        }

        /** The lamp to look at, or NONE; how many would be left at the most is kept. */
        int bestQuestion(Plan plan) {
            int all = countFitting(plan, 0, 0);
            int found = NONE;
            leftAtMost = all;
            for (int lamp = 0; lamp < plan.lamps && all > 0; lamp++) {
                int litBy = countFitting(plan, 0, 1 << lamp);
                int left = Math.max(litBy, all - litBy);
                if (found < 0 || left < leftAtMost) {
                    found = lamp;
                    leftAtMost = left;
                }
            }
            return found;
        }
    }
}
