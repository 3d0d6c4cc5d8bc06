import java.util.ArrayList;
import java.util.List;
import java.util.Random;

/** Many runs of calls by told seeds: CordLoft and the plain model must answer alike. */
public final class ModelTest {
    private static final int RUNS = 400;
    private static final int CALLS = 512;
    private static final int[] FAR = {Integer.MIN_VALUE, Integer.MIN_VALUE + 1, -65536, -257, -256, -255, 255, 256, 257,
        65536, 1 << 30, Integer.MAX_VALUE - 1, Integer.MAX_VALUE};

    private final Random random;
    private final CordLoft x = new CordLoft();
    private final Model m = new Model();
    private final int run;
    private int left = CALLS;

    private ModelTest(int run) {
        this.run = run;
        random = new Random(run * 7919L + 17);
    }

    public static void main(String[] args) {
        for (int run = 0; run < RUNS; run++) {
            new ModelTest(run).go();
        }
        Check.end("ModelTest");
    }

    private void go() {
        int quiet = 0;
        while (left > 0) {
            if (quiet == 0) {
                readText(text());
                quiet = random.nextInt(4) == 0 ? 3 : 100 + random.nextInt(200);
            }
            quiet--;
            call();
        }
    }

    private void due(String call, int got, int want) {
        left--;
        Check.due("run " + run + ", call " + (CALLS - left) + ": " + call, got, want);
    }

    private void due(String call, boolean got, boolean want) {
        due(call, got ? 1 : 0, want ? 1 : 0);
    }

    private int below(int n) {
        return random.nextInt(n);
    }

    private boolean oneIn(int n) {
        return random.nextInt(n) == 0;
    }

    /** An argument, or seldom one far from all that can be. */
    private int any(int usual) {
        return oneIn(40) ? FAR[below(FAR.length)] : usual;
    }

    private void readText(String text) {
        byte[] bytes = Model.bytes(text);
        for (int i = 0; i < bytes.length; i += 20) {
            int[] w = new int[5];
            for (int j = 0; j < 20; j++) {
                w[j / 4] = w[j / 4] << 8 | (i + j < bytes.length ? bytes[i + j] & 255 : 0);
            }
            due("feed", x.feed(w[0], w[1], w[2], w[3], w[4]), m.feed(w));
        }
        int size = m.about(10);
        int end = bytes.length <= size ? bytes.length : size;
        due("end", x.end(end), m.end(end));
        due("loft of " + text, x.loft(), m.loft());
        due("fault(0) of " + text, x.fault(0), m.fault(0));
        due("fault(1) of " + text, x.fault(1), m.fault(1));
    }

    private String text() {
        List<String> tokens = new ArrayList<>();
        int lamps = below(9);
        int cords = lamps == 0 ? 0 : oneIn(6) ? 8 : below(7);
        List<Runnable> lines = new ArrayList<>();
        for (int l = 0; l < lamps; l++) {
            int lamp = l;
            tellLamp(tokens, lamp);
        }
        for (int c = 0; c < cords; c++) {
            int cord = c;
            lines.add(() -> tellCord(tokens, cord, lamps));
        }
        for (int a = 0; a < lamps; a++) {
            for (int b = 0; b < a; b++) {
                if (oneIn(3)) {
                    String one = "l" + (char) ('a' + a);
                    String other = "l" + (char) ('a' + b);
                    lines.add(() -> tokens.addAll(oneIn(2) ? List.of("next", one, other, ";")
                            : List.of("next", other, one, ";")));
                }
            }
        }
        if (!oneIn(5)) {
            lines.add(() -> {
                tokens.add("dusk");
                tellRule(tokens, 3);
                tokens.add(";");
            });
        }
        if (oneIn(2)) {
            lines.add(() -> tokens.addAll(List.of("least", "" + below(oneIn(4) ? 10 : 3), ";")));
        }
        if (oneIn(2)) {
            lines.add(() -> tokens.addAll(List.of("gusts", "" + below(102), ";")));
        }
        if (oneIn(2)) {
            lines.add(() -> tokens.addAll(List.of("draw", "" + below(1002), ";")));
        }
        java.util.Collections.shuffle(lines, random);
        lines.forEach(Runnable::run);
        if (oneIn(3)) {
            spoil(tokens);
        }
        return spell(tokens);
    }

    private void tellLamp(List<String> tokens, int lamp) {
        tokens.addAll(List.of("lamp", "l" + (char) ('a' + lamp)));
        if (oneIn(2)) {
            tokens.add("lit");
        }
        if (oneIn(2)) {
            tokens.addAll(List.of("watts", "" + below(oneIn(20) ? 200 : 100)));
        }
        tokens.add(";");
    }

    private void tellCord(List<String> tokens, int cord, int lamps) {
        tokens.addAll(List.of("cord", "c" + (char) ('a' + cord), "turns"));
        int set = 1 + below((1 << lamps) - 1);
        if (oneIn(2)) {
            set = Integer.highestOneBit(set) | Integer.lowestOneBit(set);
        }
        for (int l = 0; l < lamps; l++) {
            if ((set >> l & 1) == 1) {
                tokens.add("l" + (char) ('a' + l));
            }
        }
        if (oneIn(2)) {
            tokens.addAll(List.of("costs", "" + below(oneIn(20) ? 40 : 21)));
        }
        tokens.add(";");
    }

    private void tellRule(List<String> tokens, int depth) {
        int kind = below(depth == 0 ? 2 : 9);
        if (kind < 2) {
            String[] units = {"lit", "near", "cords", "number", "watts", "night", "" + below(10), "" + below(10000)};
            tokens.add(units[below(units.length)]);
        } else if (kind == 2) {
            tokens.add("(");
            tellRule(tokens, depth - 1);
            tokens.add(")");
        } else if (kind == 3) {
            tokens.addAll(List.of("(", "not"));
            tellRule(tokens, depth - 1);
            tokens.add(")");
        } else {
            String[] joints = {"+", "-", "*", "/", "%", "<", ">", "=", "and", "or"};
            boolean guard = oneIn(2);
            tokens.addAll(guard ? List.of("(") : List.of());
            tellRule(tokens, depth - 1);
            tokens.add(joints[below(joints.length)]);
            tellRule(tokens, depth - 1);
            tokens.addAll(guard ? List.of(")") : List.of());
        }
    }

    private void spoil(List<String> tokens) {
        String[] odd = {"$", "abcdefghi", "12345", "12a", "x", "la", "9", ";", "(", ")", "not", "lit", "lamp", "cord",
            "next", "dusk", "least", "turns", "costs", "watts", "<", "\n", "A", "\u00e9", "0007"};
        for (int i = 0; i <= below(2) && !tokens.isEmpty(); i++) {
            int at = below(tokens.size());
            switch (below(5)) {
                case 0 -> tokens.remove(at);
                case 1 -> tokens.add(at, odd[below(odd.length)]);
                case 2 -> tokens.set(at, odd[below(odd.length)]);
                case 3 -> tokens.add(at, tokens.get(below(tokens.size())));
                default -> tokens.subList(at, tokens.size()).clear();
            }
        }
    }

    private String spell(List<String> tokens) {
        StringBuilder text = new StringBuilder();
        boolean tight = oneIn(2);
        for (String token : tokens) {
            boolean joins = text.length() > 0 && Character.isLetterOrDigit(text.charAt(text.length() - 1))
                    && Character.isLetterOrDigit(token.charAt(0));
            text.append(tight && !joins ? "" : oneIn(8) ? " \n " : " ").append(token);
        }
        text.append(oneIn(4) ? "  " : "");
        return text.substring(0, Math.min(text.length(), 1600));
    }

    private int lampOrNot() {
        return any(below(10) - 1);
    }

    private int pictureOrNot() {
        int lamps = m.about(0);
        return any(oneIn(12) ? below(600) - 100 : below(1 << lamps));
    }

    private int kind(int count) {
        return any(oneIn(12) ? below(count + 3) - 1 : below(count));
    }

    private int when() {
        return any(below(m.about(9) + 3) - 1);
    }

    private void call() {
        switch (below(4)) {
            case 0 -> callAct();
            case 1 -> callSets();
            case 2 -> callMore();
            default -> callSight();
        }
    }

    private void callAct() {
        int c = lampOrNot();
        int n = any(oneIn(10) ? below(70) - 3 : below(20));
        int w = kind(2);
        switch (below(14)) {
            case 0, 1, 2 -> due("pull(" + c + ")", x.pull(c), m.pull(c));
            case 3 -> due("tie(" + c + ")", x.tie(c), m.tie(c));
            case 4 -> due("loose(" + c + ")", x.loose(c), m.loose(c));
            case 5, 6 -> due("dusk()", x.dusk(), m.dusk());
            case 7 -> due("undo()", x.undo(), m.undo());
            case 8 -> due("redo()", x.redo(), m.redo());
            case 9 -> due("will(" + n + ", " + w + ")", x.will(n, w), m.will(n, w));
            case 10 -> due("image", x.image(c - 2), m.image(c - 2));
            case 11 -> due("back", x.back(c - 2), m.back(c - 2));
            case 12 -> due("picture()", x.picture(), m.picture());
            default -> callAbout();
        }
    }

    private void callAbout() {
        int w = any(below(17) - 1);
        int i = lampOrNot();
        int k = kind(4);
        due("about(" + w + ")", x.about(w), m.about(w));
        due("lamp(" + i + ", " + k + ")", x.lamp(i, k), m.lamp(i, k));
        due("cord(" + i + ", " + k + ")", x.cord(i, k), m.cord(i, k));
        due("lies(" + i + ")", x.lies(i), m.lies(i));
    }

    private void callSets() {
        int p = pictureOrNot();
        int w = kind(2);
        String at = "(" + p + ", " + w + ")";
        switch (below(13)) {
            case 0 -> due("can" + at, x.can(p), m.can(p));
            case 1 -> due("fewest" + at, x.fewest(p, w), m.fewest(p, w));
            case 2 -> due("cheapest" + at, x.cheapest(p, w), m.cheapest(p, w));
            case 3 -> due("ways" + at, x.ways(p), m.ways(p));
            case 4 -> due("silent" + at, x.silent(w), m.silent(w));
            case 5 -> due("pictures()", x.pictures(), m.pictures());
            case 6 -> due("spare()", x.spare(), m.spare());
            case 7 -> due("brightest" + at, x.brightest(w), m.brightest(w));
            case 8 -> due("dimmest" + at, x.dimmest(w), m.dimmest(w));
            case 9 -> due("nearest" + at, x.nearest(p, w), m.nearest(p, w));
            case 10 -> due("apart" + at, x.apart(w), m.apart(w));
            case 11 -> due("mark" + at, x.mark(w), m.mark(w));
            default -> callSteady(p);
        }
    }

    private void callSteady(int p) {
        due("steady(" + p + ")", x.steady(p), m.steady(p));
        due("rows(" + p + ")", x.rows(p), m.rows(p));
        due("about(12)", x.about(12), m.about(12));
        for (int i = 0; i <= m.about(12); i++) {
            due("lies(" + i + ")", x.lies(i), m.lies(i));
        }
    }

    private void callMore() {
        int w = kind(2);
        int c = lampOrNot();
        int n = any(oneIn(8) ? below(30) - 4 : below(21));
        switch (below(19)) {
            case 0 -> callGame(w);
            case 1 -> due("again(" + w + ")", x.again(w), m.again(w));
            case 2 -> due("pasts(" + w + ")", x.pasts(w), m.pasts(w));
            case 3 -> due("still()", x.still(), m.still());
            case 4 -> due("knot(" + c + ")", x.knot(c), m.knot(c));
            case 5 -> due("more(" + w + ")", x.more(w), m.more(w));
            case 6, 7 -> callExchange();
            case 8 -> due("loosen()", x.loosen(), m.loosen());
            case 9 -> due("boldest(" + w + ")", x.boldest(w), m.boldest(w));
            case 10 -> due("dearest()", x.dearest(), m.dearest());
            case 11 -> due("odd()", x.odd(), m.odd());
            case 12 -> due("alike(" + c + ")", x.alike(c), m.alike(c));
            case 13 -> due("alone()", x.alone(), m.alone());
            case 14 -> due("burning()", x.burning(), m.burning());
            case 15 -> due("load()", x.load(), m.load());
            case 16 -> due("longest()", x.longest(), m.longest());
            case 17 -> due("law(" + n + ")", x.law(n), m.law(n));
            default -> due("odds(" + (c / 2) + ", " + w + ")", x.odds(c / 2, w), m.odds(c / 2, w));
        }
    }

    private void callGame(int w) {
        // the model plays every row of pulls, so the widest games are played but seldom
        if (Integer.bitCount(m.about(2)) > m.about(1) - 7 || oneIn(10)) {
            due("game(" + w + ")", x.game(w), m.game(w));
        }
    }

    private void callExchange() {
        for (int w = -1; w <= 3; w++) {
            due("exchange(" + w + ")", x.exchange(w), m.exchange(w));
        }
    }

    private void callSight() {
        int l = lampOrNot();
        int k = when();
        int w = kind(2);
        boolean is = oneIn(2);
        int by = any(oneIn(10) ? below(1100) - 50 : below(3));
        int number = any(below(m.about(8) + 2) - 1);
        switch (below(12)) {
            case 0, 1, 2 -> due("seen(" + l + ", " + is + ")", x.seen(l, is), m.seen(l, is));
            case 3, 4 -> due("untell(" + number + ")", x.untell(number), m.untell(number));
            case 5 -> due("later(" + by + ")", x.later(by), m.later(by));
            case 6 -> due("fits(" + k + ")", x.fits(k), m.fits(k));
            case 7 -> due("fit(" + k + ")", x.fit(k), m.fit(k));
            case 8, 9 -> due("sure(" + l + ", " + k + ")", x.sure(l, k), m.sure(l, k));
            default -> due("ask(" + w + ", " + k + ")", x.ask(w, k), m.ask(w, k));
        }
    }
}
