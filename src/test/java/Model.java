import java.math.BigInteger;
import java.nio.charset.StandardCharsets;
import java.util.ArrayDeque;
import java.util.ArrayList;
import java.util.Comparator;
import java.util.HashMap;
import java.util.HashSet;
import java.util.List;
import java.util.Map;
import java.util.Set;
import java.util.TreeSet;

/** The document's words once more, as plainly as can be and without a care for speed: what CordLoft is held against. */
final class Model {
    static final Set<String> KEPT = Set.of("lamp", "lit", "watts", "cord", "turns", "costs", "next", "dusk", "least",
            "gusts", "draw", "or", "and", "not", "near", "cords", "number", "night");

    static final class Fault extends RuntimeException {
        private static final long serialVersionUID = 1L;
        final int kind;
        final int place;

        Fault(int kind, int place) {
            this.kind = kind;
            this.place = place;
        }
    }

    record Given(int lit, int near, int cords, int number, int watts, int night) {
    }

    interface Rule {
        int of(Given given);
    }

    record Token(char sort, String text, int place) {
    }

    static final class Told {
        final List<String> lampNames = new ArrayList<>();
        final List<Boolean> lit = new ArrayList<>();
        final List<Integer> watts = new ArrayList<>();
        final List<String> cordNames = new ArrayList<>();
        final List<Set<Integer>> turns = new ArrayList<>();
        final List<Integer> costs = new ArrayList<>();
        final Set<Set<Integer>> next = new HashSet<>();
        Rule rule = g -> 0;
        int units = 0;
        int least = 0;
        int gusts = 0;
        int draw = 0;
    }

    /** Recursive descent over the text; a fault is thrown where it stands. */
    static final class Parser {
        private final String text;
        private int at = 0;
        private Token token;
        private final Told told = new Told();
        private final Set<String> once = new HashSet<>();

        Parser(String text) {
            this.text = text;
        }

        Told all() {
            go();
            while (token.sort() != 'e') {
                line();
                sign(";");
            }
            return told;
        }

        private void go() {
            while (at < text.length() && (text.charAt(at) == ' ' || text.charAt(at) == '\n')) {
                at++;
            }
            int from = at;
            if (at == text.length()) {
                token = new Token('e', "", at);
                return;
            }
            String rest = text.substring(at);
            String run = rest.replaceFirst("(?s)^([a-z]+|[0-9]+|.).*$", "$1");
            at += run.length();
            char sort = 's';
            if (run.matches("[a-z]+")) {
                sort = run.length() > 8 ? '?' : KEPT.contains(run) ? 'k' : 'n';
            } else if (run.matches("[0-9]+")) {
                boolean glued = at < text.length() && text.substring(at, at + 1).matches("[a-z]");
                sort = run.length() > 4 || glued ? '?' : 'd';
            } else if (";()<>=+-*/%".indexOf(run) < 0) {
                sort = '?';
            }
            token = new Token(sort, run, from);
        }

        private Fault bad(int kind) {
            return new Fault(token.sort() == '?' ? 1 : kind, token.place());
        }

        private boolean is(String word) {
            return (token.sort() == 'k' || token.sort() == 's') && token.text().equals(word);
        }

        private void sign(String word) {
            if (!is(word)) {
                throw bad(2);
            }
            go();
        }

        private int number(int most) {
            if (token.sort() != 'd') {
                throw bad(2);
            }
            int n = Integer.parseInt(token.text());
            if (n > most) {
                throw bad(4);
            }
            go();
            return n;
        }

        private String fresh(List<String> others) {
            if (token.sort() != 'n') {
                throw bad(2);
            }
            if (others.contains(token.text())) {
                throw bad(3);
            }
            String name = token.text();
            go();
            return name;
        }

        private void line() {
            if (token.sort() != 'k') {
                throw bad(2);
            }
            switch (token.text()) {
                case "lamp" -> lamp();
                case "cord" -> cord();
                case "next" -> next();
                case "dusk" -> {
                    first();
                    told.rule = e(0);
                }
                case "least" -> {
                    first();
                    told.least = number(8);
                }
                case "gusts" -> {
                    first();
                    told.gusts = number(100);
                }
                case "draw" -> {
                    first();
                    told.draw = number(999);
                }
                default -> throw bad(2);
            }
        }

        private void first() {
            if (!once.add(token.text())) {
                throw bad(2);
            }
            go();
        }

        private void lamp() {
            if (told.lampNames.size() == 8) {
                throw bad(2);
            }
            go();
            told.lampNames.add(fresh(told.lampNames));
            boolean lit = is("lit");
            if (lit) {
                go();
            }
            told.lit.add(lit);
            int watts = 1;
            if (is("watts")) {
                go();
                watts = number(99);
            }
            told.watts.add(watts);
        }

        private int lampHere() {
            if (token.sort() != 'n') {
                throw bad(2);
            }
            int lamp = told.lampNames.indexOf(token.text());
            if (lamp < 0) {
                throw bad(5);
            }
            return lamp;
        }

        private void cord() {
            if (told.cordNames.size() == 8) {
                throw bad(2);
            }
            go();
            told.cordNames.add(fresh(told.cordNames));
            sign("turns");
            Set<Integer> turned = new TreeSet<>();
            do {
                if (!turned.add(lampHere())) {
                    throw bad(3);
                }
                go();
            } while (token.sort() == 'n');
            told.turns.add(turned);
            int costs = 1;
            if (is("costs")) {
                go();
                costs = number(20);
            }
            told.costs.add(costs);
        }

        private void next() {
            go();
            int one = lampHere();
            go();
            int other = lampHere();
            if (one == other || !told.next.add(Set.of(one, other))) {
                throw bad(3);
            }
            go();
        }

        private static int truth(boolean is) {
            return is ? 1 : 0;
        }

        private Rule e(int within) {
            Rule left = both(within);
            while (is("or")) {
                go();
                Rule a = left;
                Rule b = both(within);
                left = g -> truth(a.of(g) != 0 || b.of(g) != 0);
            }
            return left;
        }

        private Rule both(int within) {
            Rule left = one(within);
            while (is("and")) {
                go();
                Rule a = left;
                Rule b = one(within);
                left = g -> truth(a.of(g) != 0 && b.of(g) != 0);
            }
            return left;
        }

        private Rule one(int within) {
            if (is("not")) {
                if (within == 7) {
                    throw bad(2);
                }
                go();
                Rule a = one(within + 1);
                return g -> truth(a.of(g) == 0);
            }
            Rule a = sum(within);
            for (String relation : List.of("<", ">", "=")) {
                if (is(relation)) {
                    go();
                    Rule b = sum(within);
                    return g -> truth(Integer.compare(a.of(g), b.of(g)) == "<=>".indexOf(relation) - 1);
                }
            }
            return a;
        }

        private Rule sum(int within) {
            Rule left = term(within);
            while (is("+") || is("-")) {
                int factor = is("+") ? 1 : -1;
                go();
                Rule a = left;
                Rule b = term(within);
                left = g -> a.of(g) + factor * b.of(g);
            }
            return left;
        }

        private Rule term(int within) {
            Rule left = unit(within);
            while (is("*") || is("/") || is("%")) {
                String by = token.text();
                go();
                Rule a = left;
                Rule b = unit(within);
                left = g -> calculate(by, a.of(g), b.of(g));
            }
            return left;
        }

        private static int calculate(String by, int a, int b) {
            BigInteger x = BigInteger.valueOf(a);
            BigInteger y = BigInteger.valueOf(b);
            if (by.equals("*")) {
                return x.multiply(y).intValue();
            }
            if (b == 0) {
                return 0;
            }
            return by.equals("/") ? x.divide(y).intValue() : x.remainder(y).intValue();
        }

        private Rule unit(int within) {
            boolean opens = is("(");
            boolean named = token.sort() == 'k'
                    && List.of("lit", "near", "cords", "number", "watts", "night").contains(token.text());
            if (!opens && !named && token.sort() != 'd' || opens && within == 7 || told.units == 30) {
                throw bad(2);
            }
            told.units++;
            String what = token.text();
            go();
            if (opens) {
                Rule inner = e(within + 1);
                sign(")");
                return inner;
            }
            return switch (what) {
                case "lit" -> Given::lit;
                case "near" -> Given::near;
                case "cords" -> Given::cords;
                case "number" -> Given::number;
                case "watts" -> Given::watts;
                case "night" -> Given::night;
                default -> g -> Integer.parseInt(what);
            };
        }
    }

    /** What acts change; never changed itself. */
    record Now(int picture, Set<Integer> tied, int spent, int night, int seed) {
    }

    record Seen(int lamp, boolean is, int from, int[] till) {
    }

    private String tape = "";
    private Told told = new Told();
    private Now now = new Now(0, Set.of(), 0, 0, 0);
    private final ArrayDeque<Now> past = new ArrayDeque<>();
    private final ArrayDeque<Now> future = new ArrayDeque<>();
    private final Map<Integer, Now> boxes = new HashMap<>();
    private final List<Seen> sights = new ArrayList<>();
    private int time = 0;
    private List<Integer> lying = List.of();
    private int faultKind = 0;
    private int faultPlace = -1;

    private static int pick(int what, int... answers) {
        return what >= 0 && what < answers.length ? answers[what] : -1;
    }

    private int lamps() {
        return told.lampNames.size();
    }

    private int cords() {
        return told.cordNames.size();
    }

    private static int bits(Set<Integer> set) {
        return set.stream().mapToInt(i -> 1 << i).sum();
    }

    private boolean foreign(int picture) {
        return picture < 0 || picture >> lamps() != 0;
    }

    private int turned(int cord) {
        return bits(told.turns.get(cord));
    }

    private List<Integer> free() {
        List<Integer> list = new ArrayList<>();
        for (int c = 0; c < cords(); c++) {
            if (!now.tied().contains(c)) {
                list.add(c);
            }
        }
        return list;
    }

    private static List<Set<Integer>> subsets(List<Integer> of) {
        List<Set<Integer>> all = new ArrayList<>();
        all.add(Set.of());
        for (int item : of) {
            for (Set<Integer> one : List.copyOf(all)) {
                Set<Integer> with = new TreeSet<>(one);
                with.add(item);
                all.add(with);
            }
        }
        return all;
    }

    private int by(int picture, Set<Integer> set) {
        int p = picture;
        for (int c : set) {
            p ^= turned(c);
        }
        return p;
    }

    private int price(Set<Integer> set, List<Integer> costs) {
        return set.stream().mapToInt(costs::get).sum();
    }

    private Set<Integer> reach(List<Integer> by) {
        Set<Integer> all = new TreeSet<>();
        all.add(now.picture());
        for (int c : by) {
            for (int p : List.copyOf(all)) {
                all.add(p ^ turned(c));
            }
        }
        return all;
    }

    int feed(int... words) {
        if (tape.length() + 20 > 1600) {
            return -1;
        }
        StringBuilder more = new StringBuilder(tape);
        for (int w : words) {
            for (int i = 3; i >= 0; i--) {
                more.append((char) (w >>> 8 * i & 255));
            }
        }
        tape = more.toString();
        return tape.length();
    }

    int end(int n) {
        if (n < 0 || n > tape.length()) {
            return -1;
        }
        tape = tape.substring(0, n);
        return n;
    }

    int loft() {
        String text = tape;
        tape = "";
        try {
            told = new Parser(text).all();
        } catch (Fault f) {
            faultKind = f.kind;
            faultPlace = f.place;
            return -1;
        }
        faultKind = 0;
        faultPlace = -1;
        int lit = 0;
        for (int l = 0; l < lamps(); l++) {
            lit += told.lit.get(l) ? 1 << l : 0;
        }
        now = new Now(lit, Set.of(), 0, 0, told.draw);
        past.clear();
        future.clear();
        boxes.clear();
        sights.clear();
        lying = List.of();
        return lamps();
    }

    int fault(int what) {
        return pick(what, faultKind, faultPlace);
    }

    int lamp(int lamp, int what) {
        if (lamp < 0 || lamp >= lamps()) {
            return -1;
        }
        int by = 0;
        for (int c = 0; c < cords(); c++) {
            by += told.turns.get(c).contains(lamp) ? 1 << c : 0;
        }
        return pick(what, now.picture() >> lamp & 1, told.watts.get(lamp), by, beside(lamp));
    }

    private int beside(int lamp) {
        int next = 0;
        for (int l = 0; l < lamps(); l++) {
            next += l != lamp && told.next.contains(Set.of(l, lamp)) ? 1 << l : 0;
        }
        return next;
    }

    int cord(int cord, int what) {
        if (cord < 0 || cord >= cords()) {
            return -1;
        }
        return pick(what, turned(cord), told.costs.get(cord), now.tied().contains(cord) ? 1 : 0);
    }

    int picture() {
        return now.picture();
    }

    private void act(Now then) {
        past.addLast(now);
        if (past.size() > 40) {
            past.removeFirst();
        }
        future.clear();
        now = then;
    }

    int pull(int cord) {
        if (!free().contains(cord)) {
            return -1;
        }
        int then = now.picture() ^ turned(cord);
        if (Integer.bitCount(then) < told.least) {
            return -1;
        }
        act(new Now(then, now.tied(), now.spent() + told.costs.get(cord), now.night(), now.seed()));
        return then;
    }

    int tie(int cord) {
        if (!free().contains(cord)) {
            return -1;
        }
        Set<Integer> tied = new HashSet<>(now.tied());
        tied.add(cord);
        act(new Now(now.picture(), tied, now.spent(), now.night(), now.seed()));
        return bits(tied);
    }

    int loose(int cord) {
        if (!now.tied().contains(cord)) {
            return -1;
        }
        Set<Integer> tied = new HashSet<>(now.tied());
        tied.remove(cord);
        act(new Now(now.picture(), tied, now.spent(), now.night(), now.seed()));
        return bits(tied);
    }

    private int dark(int picture, int night) {
        int after = picture;
        for (int l = 0; l < lamps(); l++) {
            int by = 0;
            for (Set<Integer> t : told.turns) {
                by += t.contains(l) ? 1 : 0;
            }
            Given given = new Given(picture >> l & 1, Integer.bitCount(picture & beside(l)), by, l,
                    told.watts.get(l), night);
            if (told.rule.of(given) > 0) {
                after ^= 1 << l;
            }
        }
        return after;
    }

    private Now behind(Now from, boolean gusty) {
        int p = dark(from.picture(), from.night());
        int seed = (from.seed() * 137 + 71) % 1000;
        if (gusty && lamps() > 0 && seed % 100 < told.gusts) {
            p ^= 1 << seed % lamps();
        }
        return new Now(p, from.tied(), from.spent(), from.night() + 1, seed);
    }

    int dusk() {
        if (now.night() == 999) {
            return -1;
        }
        act(behind(now, true));
        return now.picture();
    }

    boolean undo() {
        if (past.isEmpty()) {
            return false;
        }
        future.addLast(now);
        now = past.removeLast();
        return true;
    }

    boolean redo() {
        if (future.isEmpty()) {
            return false;
        }
        past.addLast(now);
        now = future.removeLast();
        return true;
    }

    int will(int n, int what) {
        if (n < 0 || n > 60 || what != 0 && what != 1) {
            return -1;
        }
        Now then = now;
        for (int i = 0; i < n; i++) {
            then = behind(then, what == 1);
        }
        return then.picture();
    }

    int can(int picture) {
        return foreign(picture) ? -1 : reach(free()).contains(picture) ? 1 : 0;
    }

    private List<Set<Integer>> setsFor(int picture) {
        List<Set<Integer>> found = new ArrayList<>(subsets(free()));
        found.removeIf(s -> by(now.picture(), s) != picture);
        return found;
    }

    private static Set<Integer> fewestOf(List<Set<Integer>> sets) {
        return sets.stream().min(Comparator.<Set<Integer>>comparingInt(Set::size).thenComparingInt(Model::bits))
                .orElse(null);
    }

    int fewest(int picture, int what) {
        Set<Integer> set = fewestOf(setsFor(picture));
        return set == null ? -1 : pick(what, set.size(), bits(set));
    }

    int cheapest(int picture, int what) {
        Set<Integer> set = setsFor(picture).stream()
                .min(Comparator.<Set<Integer>>comparingInt(s -> price(s, told.costs)).thenComparingInt(Set::size)
                        .thenComparingInt(Model::bits))
                .orElse(null);
        return set == null ? -1 : pick(what, price(set, told.costs), bits(set));
    }

    int ways(int picture) {
        return foreign(picture) ? -1 : setsFor(picture).size();
    }

    int silent(int what) {
        List<Set<Integer>> sets = setsFor(now.picture());
        sets.removeIf(Set::isEmpty);
        Set<Integer> set = fewestOf(sets);
        return set == null ? -1 : pick(what, set.size(), bits(set));
    }

    int pictures() {
        return reach(free()).size();
    }

    private int without(int cord) {
        List<Integer> others = free();
        others.remove((Integer) cord);
        return reach(others).size();
    }

    int spare() {
        int found = 0;
        for (int c : free()) {
            found |= without(c) == pictures() ? 1 << c : 0;
        }
        return found;
    }

    int brightest(int what) {
        int best = reach(free()).stream().max(Comparator.<Integer>comparingInt(Integer::bitCount)
                .thenComparing(Comparator.reverseOrder())).orElseThrow();
        return pick(what, Integer.bitCount(best), best);
    }

    private int watts(int picture) {
        int sum = 0;
        for (int l = 0; l < lamps(); l++) {
            sum += (picture >> l & 1) == 1 ? told.watts.get(l) : 0;
        }
        return sum;
    }

    int dimmest(int what) {
        int best = reach(free()).stream().min(Comparator.<Integer>comparingInt(this::watts)
                .thenComparing(Comparator.naturalOrder())).orElseThrow();
        return pick(what, watts(best), best);
    }

    int nearest(int picture, int what) {
        if (foreign(picture)) {
            return -1;
        }
        int best = reach(free()).stream().min(Comparator.<Integer>comparingInt(p -> Integer.bitCount(p ^ picture))
                .thenComparing(Comparator.naturalOrder())).orElseThrow();
        return pick(what, Integer.bitCount(best ^ picture), best);
    }

    int apart(int what) {
        int best = -1;
        for (int p : reach(free())) {
            for (int q : reach(free())) {
                int d = p ^ q;
                boolean better = best < 0 || Integer.bitCount(d) < Integer.bitCount(best)
                        || Integer.bitCount(d) == Integer.bitCount(best) && d < best;
                best = p != q && better ? d : best;
            }
        }
        return best < 0 ? -1 : pick(what, Integer.bitCount(best), best);
    }

    int mark(int what) {
        for (int size = 1; size <= lamps(); size++) {
            for (int m = 0; m < 1 << lamps(); m++) {
                int set = m;
                if (Integer.bitCount(m) == size
                        && free().stream().allMatch(c -> Integer.bitCount(turned(c) & set) % 2 == 0)) {
                    return pick(what, size, m);
                }
            }
        }
        return -1;
    }

    /** All first rows, picture by picture, and how many rows of that length there are. */
    private Map<Integer, List<Integer>> firstRows(Map<Integer, Integer> counts) {
        Map<Integer, List<Integer>> rows = new HashMap<>();
        rows.put(now.picture(), List.of());
        counts.put(now.picture(), 1);
        Set<Integer> edge = Set.of(now.picture());
        while (!edge.isEmpty()) {
            Map<Integer, List<Integer>> more = new HashMap<>();
            for (int p : edge) {
                for (int c : free()) {
                    int q = p ^ turned(c);
                    if (rows.containsKey(q) || Integer.bitCount(q) < told.least) {
                        continue;
                    }
                    List<Integer> row = new ArrayList<>(rows.get(p));
                    row.add(c);
                    if (!more.containsKey(q) || row.toString().compareTo(more.get(q).toString()) < 0) {
                        more.put(q, row);
                    }
                    counts.merge(q, counts.get(p), Integer::sum);
                }
            }
            rows.putAll(more);
            edge = more.keySet();
        }
        return rows;
    }

    int steady(int picture) {
        List<Integer> row = firstRows(new HashMap<>()).get(picture);
        lying = row == null ? List.of() : row;
        return row == null ? -1 : row.size();
    }

    int rows(int picture) {
        Map<Integer, Integer> counts = new HashMap<>();
        firstRows(counts);
        return counts.getOrDefault(picture, 0);
    }

    private int value(int picture, List<Integer> left) {
        int best = left.isEmpty() ? 0 : -1;
        for (int c : left) {
            best = Math.max(best, valueOf(picture, left, c));
        }
        return best;
    }

    private int valueOf(int picture, List<Integer> left, int cord) {
        int p = picture ^ turned(cord);
        List<Integer> others = new ArrayList<>(left);
        others.remove((Integer) cord);
        return p == 0 ? 1 : -value(p, others);
    }

    int game(int what) {
        int value = value(now.picture(), free());
        if (what == 0) {
            return value;
        }
        for (int c : free()) {
            if (what == 1 && valueOf(now.picture(), free(), c) == value) {
                return c;
            }
        }
        return -1;
    }

    int again(int what) {
        List<Integer> shown = new ArrayList<>();
        Now then = now;
        for (int n = 0; n <= 300; n++) {
            int before = shown.indexOf(then.picture());
            if (before >= 0) {
                return pick(what, n, before);
            }
            shown.add(then.picture());
            then = behind(then, false);
        }
        return -1;
    }

    int pasts(int what) {
        List<Integer> found = new ArrayList<>();
        for (int p = 0; p < 1 << lamps(); p++) {
            if (dark(p, now.night()) == now.picture()) {
                found.add(p);
            }
        }
        return pick(what, found.size(), found.isEmpty() ? -1 : found.get(0));
    }

    int still() {
        int found = 0;
        for (int p = 0; p < 1 << lamps(); p++) {
            found += dark(p, now.night()) == p ? 1 : 0;
        }
        return found;
    }

    int knot(int cord) {
        return free().contains(cord) ? pictures() - without(cord) : -1;
    }

    int more(int what) {
        int best = 0;
        int most = pictures();
        for (int set = 0; set < 1 << lamps(); set++) {
            Set<Integer> all = new HashSet<>(reach(free()));
            for (int p : reach(free())) {
                all.add(p ^ set);
            }
            if (all.size() > most) {
                most = all.size();
                best = set;
            }
        }
        return pick(what, best, most);
    }

    private int darkPrice(List<Integer> costs) {
        return setsFor(0).stream().mapToInt(s -> price(s, costs)).min().orElse(-1);
    }

    int exchange(int what) {
        int least = darkPrice(told.costs);
        int[] found = null;
        for (int a = 0; a < cords(); a++) {
            for (int b = a + 1; b < cords(); b++) {
                List<Integer> costs = new ArrayList<>(told.costs);
                costs.set(a, told.costs.get(b));
                costs.set(b, told.costs.get(a));
                if (darkPrice(costs) < least) {
                    least = darkPrice(costs);
                    found = new int[] {a, b, least};
                }
            }
        }
        return found == null ? -1 : pick(what, found);
    }

    int loosen() {
        int best = -1;
        int most = 0;
        for (int c = 0; c < cords(); c++) {
            if (now.tied().contains(c)) {
                List<Integer> with = free();
                with.add(c);
                if (reach(with).size() > most) {
                    most = reach(with).size();
                    best = c;
                }
            }
        }
        return best;
    }

    int boldest(int what) {
        int best = -1;
        int most = -1;
        for (int c : free()) {
            int lit = Integer.bitCount(now.picture() ^ turned(c));
            if (lit > most) {
                most = lit;
                best = c;
            }
        }
        return pick(what, best, most);
    }

    int dearest() {
        return free().stream().max(Comparator.<Integer>comparingInt(told.costs::get)
                .thenComparing(Comparator.reverseOrder())).orElse(-1);
    }

    int odd() {
        return free().stream().filter(c -> told.turns.get(c).size() % 2 == 1).mapToInt(c -> 1 << c).sum();
    }

    private Set<Integer> turners(int lamp) {
        Set<Integer> by = new TreeSet<>(free());
        by.removeIf(c -> !told.turns.get(c).contains(lamp));
        return by;
    }

    int alike(int lamp) {
        if (lamp < 0 || lamp >= lamps()) {
            return -1;
        }
        int found = 0;
        for (int l = 0; l < lamps(); l++) {
            found += l != lamp && turners(l).equals(turners(lamp)) ? 1 << l : 0;
        }
        return found;
    }

    int alone() {
        int found = 0;
        for (int l = 0; l < lamps(); l++) {
            found += turners(l).isEmpty() ? 1 << l : 0;
        }
        return found;
    }

    int burning() {
        return Integer.bitCount(now.picture());
    }

    int load() {
        return watts(now.picture());
    }

    int longest() {
        int best = -1;
        for (int c = 0; c < cords(); c++) {
            if (best < 0 || told.turns.get(c).size() > told.turns.get(best).size()) {
                best = c;
            }
        }
        return best;
    }

    int law(int n) {
        if (n < 0 || n > 20) {
            return -1;
        }
        Set<Integer> cheap = new TreeSet<>(free());
        cheap.removeIf(c -> told.costs.get(c) > n);
        return Integer.bitCount(by(now.picture(), cheap));
    }

    int odds(int n, int part) {
        if (n < 0 || n > 4) {
            return -1;
        }
        BigInteger upper = BigInteger.valueOf(100 - told.gusts).pow(n);
        BigInteger lower = BigInteger.valueOf(100).pow(n);
        BigInteger common = upper.gcd(lower);
        return pick(part, upper.divide(common).intValueExact(), lower.divide(common).intValueExact());
    }

    int lies(int i) {
        return i < 0 || i >= lying.size() ? -1 : lying.get(i);
    }

    int seen(int lamp, boolean is) {
        if (lamp < 0 || lamp >= lamps() || sights.size() == 30) {
            return -1;
        }
        sights.add(new Seen(lamp, is, time, new int[] {Integer.MAX_VALUE}));
        return sights.size() - 1;
    }

    boolean untell(int seen) {
        if (seen < 0 || seen >= sights.size() || sights.get(seen).till()[0] != Integer.MAX_VALUE) {
            return false;
        }
        sights.get(seen).till()[0] = time;
        return true;
    }

    int later(int by) {
        if (by < 0 || by > 1000 || time + by > 100000) {
            return -1;
        }
        time += by;
        return time;
    }

    private List<Set<Integer>> fitting(int k) {
        List<Integer> all = new ArrayList<>();
        for (int c = 0; c < cords(); c++) {
            all.add(c);
        }
        List<Set<Integer>> found = new ArrayList<>(subsets(all));
        for (Seen s : sights) {
            boolean untold = s.till()[0] != Integer.MAX_VALUE && s.till()[0] <= k;
            if (s.from() <= k && !untold) {
                found.removeIf(set -> litBy(set, s.lamp()) != s.is());
            }
        }
        return found;
    }

    private boolean litBy(Set<Integer> set, int lamp) {
        long turns = set.stream().filter(c -> told.turns.get(c).contains(lamp)).count();
        return told.lit.get(lamp) != (turns % 2 == 1);
    }

    int fits(int k) {
        return fitting(k).size();
    }

    int fit(int k) {
        return fitting(k).stream().mapToInt(Model::bits).min().orElse(-1);
    }

    int sure(int cord, int k) {
        List<Set<Integer>> all = fitting(k);
        if (all.isEmpty() || cord < 0 || cord >= cords()) {
            return -1;
        }
        long with = all.stream().filter(s -> s.contains(cord)).count();
        return with == all.size() ? 1 : with == 0 ? 0 : -2;
    }

    int ask(int what, int k) {
        List<Set<Integer>> all = fitting(k);
        int best = -1;
        int fewest = Integer.MAX_VALUE;
        for (int l = 0; l < lamps() && !all.isEmpty(); l++) {
            int lamp = l;
            int lit = (int) all.stream().filter(s -> litBy(s, lamp)).count();
            int left = Math.max(lit, all.size() - lit);
            if (left < fewest) {
                fewest = left;
                best = l;
            }
        }
        return best < 0 ? -1 : pick(what, best, fewest);
    }

    int image(int box) {
        if (box < 0 || box > 2) {
            return -1;
        }
        boxes.put(box, now);
        return now.picture();
    }

    int back(int box) {
        if (!boxes.containsKey(box)) {
            return -1;
        }
        now = boxes.get(box);
        past.clear();
        future.clear();
        return now.picture();
    }

    int about(int what) {
        return pick(what, lamps(), cords(), bits(now.tied()), now.spent(), now.night(), now.seed(), past.size(),
                future.size(), sights.size(), time, tape.length(), told.units, lying.size(), told.least, told.gusts);
    }

    static byte[] bytes(String text) {
        return text.getBytes(StandardCharsets.ISO_8859_1);
    }
}
