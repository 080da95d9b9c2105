import java.util.ArrayList;
import java.util.List;
import java.util.Random;

/** Holds the class against PlainModel in runs of drawn calls; the draws are the same every time. */
public final class FuzzTest {
    /** What is answered behind so many calls is free. */
    private static final int MOST_CALLS = 512;
    private final Random draw;
    private final StringHands x = new StringHands();
    private final PlainModel m = new PlainModel();
    private final List<String> said = new ArrayList<>();
    private int calls;
    private boolean wrong;
    /** Searches of the model grow with these, so most runs keep them low. */
    private final int mostLimbs;
    private final int mostStrings;

    private FuzzTest(long seed) {
        draw = new Random(seed);
        boolean large = seed % 40 == 0;
        mostLimbs = large ? 10 : 2 + (int) (seed % 5);
        mostStrings = large ? 11 : 7;
    }

    private int upTo(int n) {
        return draw.nextInt(n + 1);
    }

    private boolean oneIn(int n) {
        return draw.nextInt(n) == 0;
    }

    private <T> T of(List<T> some) {
        return some.get(draw.nextInt(some.size()));
    }

    // ---- texts

    private String atom(int limbs, int depth) {
        int sort = upTo(5);
        if (sort == 0 && depth < 6) {
            return "( " + sum(limbs, depth + 1) + " )";
        }
        if (sort == 1) {
            return oneIn(6) ? "" + upTo(999) : "" + upTo(3);
        }
        return sort < 4 ? "up " + upTo(limbs - 1) : sort == 4 ? "me" : "pulls";
    }

    private String sum(int limbs, int depth) {
        String t = atom(limbs, depth);
        for (int i = upTo(5) - 3; i > 0; i--) {
            t += of(List.of(" + ", " - ", " * ", "*")) + atom(limbs, depth);
        }
        return t;
    }

    private String truth(int limbs, int depth) {
        int sort = upTo(7);
        if (sort == 0 && depth < 6) {
            return "not " + truth(limbs, depth + 1);
        }
        if (sort == 1 && depth < 6) {
            return "[ " + truth(limbs, depth + 1) + " ]";
        }
        if (sort == 2 && depth < 5) {
            return truth(limbs, depth + 1) + of(List.of(" and ", " or ")) + truth(limbs, depth + 1);
        }
        return sum(limbs, depth) + of(List.of(" = ", " < ", " > ", ">")) + sum(limbs, depth);
    }

    private String text() {
        StringBuilder t = new StringBuilder();
        int limbs = 0;
        int want = 1 + upTo(mostLimbs - 1);
        while (limbs < want) {
            int n = 1 + upTo(Math.min(6, want - limbs) - 1);
            t.append("puppet ").append(n).append(";");
            limbs += n;
        }
        int wantStrings = limbs < 2 ? 0 : upTo(mostStrings);
        for (int i = 0; i < wantStrings; i++) {
            int a = upTo(limbs - 1);
            int b = (a + 1 + upTo(limbs - 2)) % limbs;
            t.append("string ").append(a).append(" to ").append(b);
            t.append(oneIn(3) ? " times " + (1 + upTo(2)) : "").append(oneIn(3) ? " turned" : "").append(";");
        }
        for (int i = upTo(4); i > 0; i--) {
            t.append("need ").append(upTo(limbs - 1)).append(" ").append(1 + upTo(oneIn(5) ? 8 : 2)).append(";");
        }
        for (int i = oneIn(3) ? 0 : upTo(3); i > 0; i--) {
            t.append("rule ").append(upTo(limbs - 1)).append(" : ").append(truth(limbs, 0)).append(";");
        }
        for (int i = upTo(3); i > 0; i--) {
            t.append("up ").append(upTo(limbs - 1)).append(";\n");
        }
        if (oneIn(2)) {
            t.append("life ").append(1 + upTo(oneIn(4) ? 98 : 5)).append(" ;");
        }
        return t.toString();
    }

    /** A text with a few of its signs otherwise, so that faults come at all places. */
    private String spoilt(String text) {
        StringBuilder t = new StringBuilder(text);
        for (int i = 1 + upTo(1); i > 0 && t.length() > 0; i--) {
            int at = oneIn(4) ? Math.max(0, t.indexOf(":")) : oneIn(3) ? 0 : upTo(t.length() - 1);
            String with = of(List.of("", "0", "9", "11", ";", " ", "a", "not ", "(", ")", "[", "]", "=", "A", "\t",
                    "up ", "me", "string ", "puppet 6;", "string 0 to 1;", "times 2", "turned", ":", "\u00ff", "\u0000",
                    ": not not not not not not", ": [[[[[[", "puppet 6;puppet 4;", "puppet 6;puppet 5;",
                    "puppet 2;" + "string 0 to 1;".repeat(12 + upTo(4))));
            if (oneIn(2)) {
                t.insert(at, with);
            } else {
                t.replace(at, at + 1, with);
            }
        }
        return t.toString();
    }

    private void tell(String text) {
        int n = Math.min(text.length(), 900);
        for (int i = 0; i < n; i += 20) {
            int[] w = new int[5];
            for (int j = 0; j < 20; j++) {
                int b = i + j < n ? text.charAt(i + j) & 255 : 32;
                w[j / 4] |= b << 24 - j % 4 * 8;
            }
            due("feed", x.feed(w[0], w[1], w[2], w[3], w[4]), m.feed(w[0], w[1], w[2], w[3], w[4]));
        }
        said.add("text: " + text);
        due("troupe " + n, x.troupe(n), m.troupe(n));
        due("fault 0", x.fault(0), m.fault(0));
        due("fault 1", x.fault(1), m.fault(1));
    }

    // ---- calls

    private void due(String call, long got, long want) {
        calls++;
        said.add(call + " -> " + want);
        if (got != want && !wrong && calls <= MOST_CALLS) {
            wrong = true;
            said.add("WRONG: " + call + " answered " + got + ", due is " + want);
        }
    }

    private int limb() {
        return oneIn(20) ? upTo(14) - 2 : upTo(Math.max(0, m.count(1) - 1));
    }

    private int string() {
        return oneIn(20) ? upTo(20) - 2 : upTo(Math.max(0, m.count(2) - 1));
    }

    private int pose() {
        return oneIn(30) ? of(List.of(-1, 1024, Integer.MIN_VALUE, Integer.MAX_VALUE, 1 << m.count(1)))
                : upTo((1 << m.count(1)) - 1);
    }

    private int scene() {
        int told = upTo((1 << m.count(1)) - 1);
        return oneIn(30) ? of(List.of(-1, 1, 1024 * 1024, Integer.MIN_VALUE, Integer.MAX_VALUE, told))
                : 1024 * told + (told & draw.nextInt());
    }

    /** Row 0 is for scripts, 1 for deeds, 2 for films; now and then another one is asked. */
    private int row(int use) {
        return oneIn(40) ? of(List.of(-1, 4)) : oneIn(10) ? upTo(3) : use;
    }

    private int what(int most) {
        return oneIn(30) ? of(List.of(-1, most + 1)) : upTo(most);
    }

    private void fillRow() {
        int use = upTo(2);
        int row = row(use);
        int sort = oneIn(6) ? what(3) : 2 + upTo(1);
        int n = oneIn(15) ? of(List.of(0, 1, 12, 13, 30, 31, 40, 41, -1)) : use == 0 ? 1 + upTo(4) : 2 + upTo(6);
        due("numbers " + row + " " + sort + " " + n, x.numbers(row, sort, n), m.numbers(row, sort, n));
        if (use == 2 && oneIn(2)) {
            due("film " + row, x.film(row), m.film(row));
        }
        for (int i = 0; i < n; i++) {
            long v = use == 0 ? scene() : use == 1 ? deed() : pose();
            if (use != 2 || oneIn(2)) {
                due("write " + row + " " + i + " " + v, x.write(row, i, v), m.write(row, i, v));
            }
        }
        int i = of(List.of(-1, 0, 39, 40));
        long v = draw.nextLong();
        if (oneIn(10)) {
            due("write " + row + " " + i + " " + v, x.write(row, i, v), m.write(row, i, v));
        }
    }

    private long deed() {
        int sort = upTo(12);
        return sort < 4 ? limb() : sort < 6 ? 100 + string() : sort < 8 ? 200 + string() : sort < 12 ? -1
                : of(List.of(-2L, 99L, 300L, Long.MAX_VALUE, Long.MIN_VALUE, (1L << 32), 200L + (1L << 32)));
    }

    private void doSome() {
        int l = limb();
        int k = string();
        int n = oneIn(20) ? of(List.of(0, -1, 200, 201)) : 1 + upTo(6);
        int p = pose();
        int row = row(1);
        int seed = draw.nextInt();
        switch (upTo(12)) {
            case 0 -> due("nudge " + l, x.nudge(l), m.nudge(l));
            case 1 -> due("strike " + p, x.strike(p), m.strike(p));
            case 2, 3 -> due("beat " + n, x.beat(n), m.beat(n));
            case 4 -> due("cut " + k, x.cut(k), m.cut(k));
            case 5 -> due("tie " + k, x.tie(k), m.tie(k));
            case 6 -> due("moves " + k + " " + l, x.moves(k, l), m.moves(k, l));
            case 7 -> due("swap " + l, x.swap(l), m.swap(l));
            case 8 -> due("undo " + n, x.undo(n), m.undo(n));
            case 9 -> due("perform " + row, x.perform(row), m.perform(row));
            case 10 -> due("season " + seed, x.season(seed, n), m.season(seed, n));
            case 11 -> imageOne();
            default -> restoreOne();
        }
        if (oneIn(4)) {
            fillRow();
        }
    }

    private void imageOne() {
        int i = oneIn(10) ? of(List.of(2, -1)) : upTo(1);
        due("image " + i, x.image(i), m.image(i));
    }

    private void restoreOne() {
        int i = oneIn(10) ? of(List.of(2, -1)) : upTo(1);
        due("restore " + i, x.restore(i), m.restore(i));
    }

    private void askPoses() {
        int p = pose();
        int w = what(2);
        int k = oneIn(3) ? -1 : upTo(5) - 2;
        int n = oneIn(20) ? of(List.of(-1, 9999, 10000)) : upTo(30);
        int s = oneIn(10) ? of(List.of(-1, 2, 9, 49, 50)) : of(List.of(0, 1, 10, 11, 12, 13));
        switch (upTo(10)) {
            case 0 -> due("next " + p, x.next(p), m.next(p));
            case 1 -> due("later " + p + " " + n, x.later(p, n), m.later(p, n));
            case 2 -> due("round " + p + " " + w, x.round(p, w), m.round(p, w));
            case 3 -> due("rests " + k, x.rests(k), m.rests(k));
            case 4 -> due("rings " + k, x.rings(k), m.rings(k));
            case 5 -> due("basin " + p, x.basin(p), m.basin(p));
            case 6 -> due("gardens", x.gardens(), m.gardens());
            case 7 -> due("farthest", x.farthest(), m.farthest());
            case 8 -> due("soonest " + p + " " + s, x.soonest(p, s), m.soonest(p, s));
            case 9 -> due("wakes " + p, x.wakes(p), m.wakes(p));
            default -> askCure(p);
        }
    }

    private void askCure(int p) {
        int w = what(1);
        due("cure " + p + " " + w, x.cure(p, w), m.cure(p, w));
    }

    private void askMore() {
        int l = limb();
        int o = limb();
        int k = string();
        int a = scene();
        int b = scene();
        int w = what(3);
        int n = oneIn(20) ? of(List.of(-1, 99, 100)) : upTo(6);
        int script = row(0);
        int deeds = row(1);
        switch (upTo(14)) {
            case 0 -> due("works " + l, x.works(l), m.works(l));
            case 1 -> due("part " + l, x.part(l), m.part(l));
            case 2 -> due("parts", x.parts(), m.parts());
            case 3 -> due("free " + l + " " + o, x.free(l, o), m.free(l, o));
            case 4 -> due("stops " + k, x.stops(k), m.stops(k));
            case 5 -> due("begins " + script + " " + (n - 1), x.begins(script, n - 1), m.begins(script, n - 1));
            case 6 -> due("rehearse " + script, x.rehearse(script), m.rehearse(script));
            case 7 -> due("tangles", x.tangles(), m.tangles());
            case 8 -> due("leastTangles", x.leastTangles(), m.leastTangles());
            case 9 -> due("two " + l + " " + a + " " + o + " " + b + " " + w, x.two(l, a, o, b, w), m.two(l, a, o, b, w));
            case 10 -> due("power " + l + " " + n, x.power(l, n), m.power(l, n));
            case 11 -> due("breaks " + (w - 1), x.breaks(w - 1), m.breaks(w - 1));
            case 12 -> due("judge " + deeds + " " + w, x.judge(deeds, w), m.judge(deeds, w));
            default -> askFilm(row(2), l);
        }
    }

    private void askFilm(int row, int l) {
        int w = what(1);
        due("fits " + row + " " + l, x.fits(row, l), m.fits(row, l));
        due("fewest " + row + " " + l + " " + w, x.fewest(row, l, w), m.fewest(row, l, w));
        due("sure " + row + " " + l, x.sure(row, l), m.sure(row, l));
        due("telling " + row + " " + l, x.telling(row, l), m.telling(row, l));
    }

    private void look() {
        int l = limb();
        int k = string();
        for (int w = -1; w <= 9; w++) {
            due("limb " + l + " " + w, x.limb(l, w), m.limb(l, w));
            due("string " + k + " " + w, x.string(k, w), m.string(k, w));
        }
        for (int w = -1; w <= 10; w++) {
            due("count " + w, x.count(w), m.count(w));
        }
    }

    private boolean run() {
        for (int i = 0; calls < MOST_CALLS && !wrong; i++) {
            if (i == 0 || oneIn(25)) {
                String t = text();
                tell(oneIn(2) && i > 0 ? spoilt(t) : t);
            }
            doSome();
            askPoses();
            askMore();
            if (oneIn(6)) {
                look();
            }
        }
        return !wrong;
    }

    /** As many strings as there can be; of the slow searches of the model only a few. */
    private boolean runWide() {
        int limbs = 2 + upTo(5);
        StringBuilder t = new StringBuilder("puppet " + (limbs - 1) + ";puppet 1;");
        int into = oneIn(2) ? upTo(limbs - 1) : -1;
        for (int i = 0; i < 16; i++) {
            int b = into >= 0 && !oneIn(4) ? into : upTo(limbs - 1);
            int a = (b + 1 + upTo(limbs - 2)) % limbs;
            t.append("string ").append(a).append(" to ").append(b).append(" times ").append(1 + upTo(2));
            t.append(oneIn(3) ? " turned;" : ";");
        }
        t.append("need 0 ").append(1 + upTo(8)).append(";need 1 ").append(1 + upTo(8)).append(";");
        t.append(oneIn(3) ? "rule 0 : pulls = " + upTo(20) + ";" : "");
        tell(t.toString());
        for (int i = 0; i < 4; i++) {
            due("leastTangles", x.leastTangles(), m.leastTangles());
            int k = upTo(15);
            int l = upTo(limbs - 1);
            due("cut " + k, x.cut(k), m.cut(k));
            due("moves " + k + " " + l, x.moves(k, l), m.moves(k, l));
            due("swap " + l, x.swap(l), m.swap(l));
        }
        int l = upTo(limbs - 1);
        int p = upTo((1 << limbs) - 1);
        due("free " + l, x.free(l, (l + 1) % limbs), m.free(l, (l + 1) % limbs));
        due("cure " + p, x.cure(p, 1), m.cure(p, 1));
        return !wrong;
    }

    public static void main(String[] args) {
        int runs = args.length > 0 ? Integer.parseInt(args[0]) : 700;
        long first = args.length > 1 ? Long.parseLong(args[1]) : 1;
        int bad = 0;
        for (long seed = first; seed < first + runs && bad < 3; seed++) {
            FuzzTest t = new FuzzTest(seed);
            if (!(seed % 10 == 5 ? t.runWide() : t.run())) {
                bad++;
                System.out.println("seed " + seed);
                int from = Math.max(0, t.said.size() - 60);
                t.said.subList(from, t.said.size()).forEach(System.out::println);
            }
        }
        System.out.println(bad == 0 ? runs + " drawn runs are as due" : bad + " drawn runs are not as due");
        System.exit(bad == 0 ? 0 : 1);
    }
}
