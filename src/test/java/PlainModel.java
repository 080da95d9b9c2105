import java.util.ArrayList;
import java.util.HashMap;
import java.util.HashSet;
import java.util.List;
import java.util.Map;
import java.util.Set;
import java.util.TreeMap;
import java.util.TreeSet;
import java.util.function.BiFunction;

/**
 * The document's words, as plainly as they go, with no care for speed: each search tries all there is.
 * It shares no code with the class, so that FuzzTest can hold the two against each other.
 */
final class PlainModel {
    private static final class Fault extends RuntimeException {
        private static final long serialVersionUID = 1L;
        final int kind;
        final int place;

        Fault(int kind, int place) {
            this.kind = kind;
            this.place = place;
        }
    }

    private interface Truth {
        boolean holds(int pose, int me, int pulls);
    }

    private interface Sum {
        long value(int pose, int me, int pulls);
    }

    private static final class Rule {
        Truth truth;
        final Set<Integer> ups = new TreeSet<>();
        boolean pulls;
    }

    private static final class Thread {
        int from;
        int to;
        int times = 1;
        boolean turned;
        boolean whole = true;
        int wear;

        Thread copy() {
            Thread c = new Thread();
            c.from = from;
            c.to = to;
            c.times = times;
            c.turned = turned;
            c.whole = whole;
            c.wear = wear;
            return c;
        }
    }

    private static final class State {
        List<Integer> puppetOf = new ArrayList<>();
        int puppets;
        Map<Integer, Integer> need = new HashMap<>();
        Map<Integer, Rule> rules = new HashMap<>();
        List<Thread> strings = new ArrayList<>();
        List<Integer> order = new ArrayList<>();
        int pose;
        int life;
        int lines;

        State copy() {
            State c = new State();
            c.puppetOf = new ArrayList<>(puppetOf);
            c.puppets = puppets;
            c.need = new HashMap<>(need);
            c.rules = new HashMap<>(rules);
            for (Thread t : strings) {
                c.strings.add(t.copy());
            }
            c.order = new ArrayList<>(order);
            c.pose = pose;
            c.life = life;
            c.lines = lines;
            return c;
        }

        int limbs() {
            return puppetOf.size();
        }

        int poses() {
            return 1 << limbs();
        }

        int whole() {
            int n = 0;
            for (Thread t : strings) {
                n += t.whole ? 1 : 0;
            }
            return n;
        }

        int pulls(int l, int p) {
            int sum = 0;
            for (Thread t : strings) {
                boolean up = (p >> t.from & 1) == 1;
                if (t.whole && t.to == l && up != t.turned) {
                    sum += t.times;
                }
            }
            return sum;
        }

        boolean isPulled(int l) {
            for (Thread t : strings) {
                if (t.whole && t.to == l) {
                    return true;
                }
            }
            return false;
        }

        int next(int p) {
            int then = 0;
            for (int l = 0; l < limbs(); l++) {
                boolean up;
                if (rules.containsKey(l)) {
                    up = rules.get(l).truth.holds(p, l, pulls(l, p));
                } else if (isPulled(l)) {
                    up = pulls(l, p) >= need.getOrDefault(l, 1);
                } else {
                    up = (p >> l & 1) == 1;
                }
                then |= up ? 1 << l : 0;
            }
            return then;
        }

        int later(int p, int n) {
            for (int i = 0; i < n; i++) {
                p = next(p);
            }
            return p;
        }

        int beat() {
            int then = next(pose);
            int moved = pose ^ then;
            pose = then;
            for (Thread t : strings) {
                if (t.whole && (moved >> t.from & 1) == 1) {
                    t.wear++;
                }
            }
            for (Thread t : strings) {
                if (t.whole && life > 0 && t.wear >= life) {
                    t.whole = false;
                }
            }
            return Integer.bitCount(moved);
        }

        void tie(int k) {
            strings.get(k).whole = true;
            strings.get(k).wear = 0;
        }

        boolean worksAtOnce(int a, int b) {
            Rule r = rules.get(b);
            for (Thread t : strings) {
                if (t.whole && t.from == a && t.to == b && (r == null || r.pulls)) {
                    return true;
                }
            }
            return r != null && a != b && r.ups.contains(a);
        }

        Set<Integer> worked(int l) {
            Set<Integer> found = new TreeSet<>();
            List<Integer> todo = new ArrayList<>(List.of(l));
            while (!todo.isEmpty()) {
                int a = todo.remove(0);
                for (int b = 0; b < limbs(); b++) {
                    if (worksAtOnce(a, b) && found.add(b)) {
                        todo.add(b);
                    }
                }
            }
            return found;
        }

        int tangles(List<Integer> lie) {
            int n = 0;
            for (Thread a : strings) {
                for (Thread b : strings) {
                    boolean ahead = lie.indexOf(a.from) < lie.indexOf(b.from);
                    boolean behind = lie.indexOf(a.to) > lie.indexOf(b.to);
                    n += a.whole && b.whole && ahead && behind ? 1 : 0;
                }
            }
            return n;
        }
    }

    // ---- the text

    private static final class Parser {
        final String text;
        int at;
        final State s = new State();
        Rule rule;

        Parser(String text) {
            this.text = text;
        }

        int place() {
            int i = at;
            while (i < text.length() && (text.charAt(i) == ' ' || text.charAt(i) == '\n')) {
                i++;
            }
            return i;
        }

        /** The token that comes; empty at the end. */
        String peek() {
            String rest = text.substring(place());
            if (rest.isEmpty()) {
                return "";
            }
            java.util.regex.Matcher m =
                    java.util.regex.Pattern.compile("[a-z]+|[0-9]+|[;:+\\-*()\\[\\]=<>]").matcher(rest);
            if (!m.lookingAt() || (Character.isDigit(m.group().charAt(0)) && m.group().length() > 3)) {
                throw new Fault(1, place());
            }
            return m.group();
        }

        String take() {
            String t = peek();
            at = place() + t.length();
            return t;
        }

        void expect(String want) {
            if (!peek().equals(want)) {
                throw new Fault(2, place());
            }
            take();
        }

        int number(int least, int most) {
            String t = peek();
            if (t.isEmpty() || !Character.isDigit(t.charAt(0))) {
                throw new Fault(2, place());
            }
            int v = Integer.parseInt(t);
            if (v < least || v > most) {
                throw new Fault(3, place());
            }
            return v;
        }

        int takeNumber(int least, int most) {
            int v = number(least, most);
            take();
            return v;
        }

        int takeLimb() {
            return takeNumber(0, s.limbs() - 1);
        }

        State troupe() {
            while (!peek().isEmpty()) {
                line();
                expect(";");
                s.lines++;
            }
            for (int l = 0; l < s.limbs(); l++) {
                s.order.add(l);
            }
            return s;
        }

        void line() {
            switch (peek()) {
                case "puppet" -> {
                    take();
                    int n = number(1, 6);
                    if (s.limbs() + n > 10) {
                        throw new Fault(4, place());
                    }
                    take();
                    for (int i = 0; i < n; i++) {
                        s.puppetOf.add(s.puppets);
                    }
                    s.puppets++;
                }
                case "string" -> string();
                case "need" -> {
                    take();
                    int l = takeLimb();
                    s.need.put(l, takeNumber(1, 9));
                }
                case "rule" -> {
                    take();
                    int l = takeLimb();
                    expect(":");
                    rule = new Rule();
                    rule.truth = truth(0);
                    s.rules.put(l, rule);
                }
                case "up" -> {
                    take();
                    s.pose |= 1 << takeLimb();
                }
                case "life" -> {
                    take();
                    s.life = takeNumber(1, 99);
                }
                default -> throw new Fault(2, place());
            }
        }

        void string() {
            if (s.strings.size() == 16) {
                throw new Fault(4, place());
            }
            take();
            Thread t = new Thread();
            t.from = takeLimb();
            expect("to");
            t.to = number(0, s.limbs() - 1);
            if (t.to == t.from) {
                throw new Fault(3, place());
            }
            take();
            if (peek().equals("times")) {
                take();
                t.times = takeNumber(1, 3);
            }
            if (peek().equals("turned")) {
                take();
                t.turned = true;
            }
            s.strings.add(t);
        }

        Truth truth(int depth) {
            Truth a = both(depth);
            while (peek().equals("or")) {
                take();
                Truth l = a;
                Truth r = both(depth);
                a = (p, m, u) -> l.holds(p, m, u) || r.holds(p, m, u);
            }
            return a;
        }

        Truth both(int depth) {
            Truth a = unit(depth);
            while (peek().equals("and")) {
                take();
                Truth l = a;
                Truth r = unit(depth);
                a = (p, m, u) -> l.holds(p, m, u) && r.holds(p, m, u);
            }
            return a;
        }

        void deeper(int depth) {
            if (depth == 6) {
                throw new Fault(4, place());
            }
            take();
        }

        Truth unit(int depth) {
            if (peek().equals("not")) {
                deeper(depth);
                Truth a = unit(depth + 1);
                return (p, m, u) -> !a.holds(p, m, u);
            }
            if (peek().equals("[")) {
                deeper(depth);
                Truth a = truth(depth + 1);
                expect("]");
                return a;
            }
            Sum a = sum(depth);
            String op = peek();
            if (!op.equals("=") && !op.equals("<") && !op.equals(">")) {
                throw new Fault(2, place());
            }
            take();
            Sum b = sum(depth);
            return (p, m, u) -> {
                int c = Long.compare(a.value(p, m, u), b.value(p, m, u));
                return op.equals("=") ? c == 0 : op.equals("<") ? c < 0 : c > 0;
            };
        }

        static Sum joined(Sum a, Sum b, BiFunction<Long, Long, Long> how) {
            return (p, m, u) -> {
                long v = how.apply(a.value(p, m, u), b.value(p, m, u));
                return v > 1_000_000 ? 1_000_000 : v < -1_000_000 ? -1_000_000 : v;
            };
        }

        Sum sum(int depth) {
            Sum a = term(depth);
            while (peek().equals("+") || peek().equals("-")) {
                boolean plus = take().equals("+");
                a = joined(a, term(depth), plus ? (x, y) -> x + y : (x, y) -> x - y);
            }
            return a;
        }

        Sum term(int depth) {
            Sum a = atom(depth);
            while (peek().equals("*")) {
                take();
                a = joined(a, atom(depth), (x, y) -> x * y);
            }
            return a;
        }

        Sum atom(int depth) {
            String t = peek();
            if (!t.isEmpty() && Character.isDigit(t.charAt(0))) {
                long v = takeNumber(0, 999);
                return (p, m, u) -> v;
            }
            switch (t) {
                case "up": {
                    take();
                    int l = takeLimb();
                    rule.ups.add(l);
                    return (p, m, u) -> p >> l & 1;
                }
                case "me":
                    take();
                    return (p, m, u) -> p >> m & 1;
                case "pulls":
                    take();
                    rule.pulls = true;
                    return (p, m, u) -> u;
                case "(": {
                    deeper(depth);
                    Sum a = sum(depth + 1);
                    expect(")");
                    return a;
                }
                default:
                    throw new Fault(2, place());
            }
        }
    }

    // ---- the calls

    private State s = new State();
    private final List<State> past = new ArrayList<>();
    private final State[] images = new State[2];
    private final long[][] rows = new long[4][];
    private final int[] sorts = new int[4];
    private final StringBuilder tape = new StringBuilder();
    private int faultKind;
    private int faultPlace = -1;

    private boolean isLimb(int l) {
        return l >= 0 && l < s.limbs();
    }

    private boolean isString(int k) {
        return k >= 0 && k < s.strings.size();
    }

    private boolean isPose(long p) {
        return p >= 0 && p < s.poses();
    }

    private boolean isRow(int r) {
        return r >= 0 && r < 4;
    }

    private void remember(State before) {
        past.add(before);
        if (past.size() > 10) {
            past.remove(0);
        }
    }

    private static int bits(Iterable<Integer> some) {
        int b = 0;
        for (int i : some) {
            b |= 1 << i;
        }
        return b;
    }

    int feed(int a, int b, int c, int d, int e) {
        if (tape.length() > 880) {
            return -5;
        }
        for (int w : new int[] {a, b, c, d, e}) {
            for (int i = 3; i >= 0; i--) {
                tape.append((char) (w >>> 8 * i & 255));
            }
        }
        return tape.length();
    }

    int troupe(int n) {
        if (n < 0 || n > tape.length()) {
            return -3;
        }
        String text = tape.substring(0, n);
        tape.setLength(0);
        try {
            s = new Parser(text).troupe();
        } catch (Fault f) {
            faultKind = f.kind;
            faultPlace = f.place;
            return -30 - f.kind;
        }
        faultKind = 0;
        faultPlace = -1;
        past.clear();
        return s.lines;
    }

    int fault(int what) {
        return what == 0 ? faultKind : what == 1 ? faultPlace : -1;
    }

    int limb(int l, int what) {
        if (!isLimb(l) || what < 0 || what > 8) {
            return -2;
        }
        int to = 0;
        int from = 0;
        for (Thread t : s.strings) {
            to += t.whole && t.to == l ? 1 : 0;
            from += t.whole && t.from == l ? 1 : 0;
        }
        int[] all = {s.pose >> l & 1, s.puppetOf.get(l), to, from, s.need.getOrDefault(l, 1), s.pulls(l, s.pose),
            s.rules.containsKey(l) ? 1 : 0, s.next(s.pose) >> l & 1, s.order.indexOf(l)};
        return all[what];
    }

    int string(int k, int what) {
        if (!isString(k) || what < 0 || what > 5) {
            return -2;
        }
        Thread t = s.strings.get(k);
        return new int[] {t.from, t.to, t.times, t.turned ? 1 : 0, t.whole ? 1 : 0, t.wear}[what];
    }

    int nudge(int l) {
        if (!isLimb(l)) {
            return -2;
        }
        remember(s.copy());
        return s.pose ^= 1 << l;
    }

    int strike(int pose) {
        if (!isPose(pose)) {
            return -3;
        }
        int n = Integer.bitCount(pose ^ s.pose);
        if (n > 0) {
            remember(s.copy());
            s.pose = pose;
        }
        return n;
    }

    int beat(int n) {
        if (n < 1 || n > 200) {
            return -3;
        }
        remember(s.copy());
        int moved = 0;
        for (int i = 0; i < n; i++) {
            moved += s.beat();
        }
        return moved;
    }

    int cut(int k) {
        if (!isString(k)) {
            return -2;
        }
        if (!s.strings.get(k).whole) {
            return -5;
        }
        remember(s.copy());
        s.strings.get(k).whole = false;
        return s.whole();
    }

    int tie(int k) {
        if (!isString(k)) {
            return -2;
        }
        if (s.strings.get(k).whole) {
            return -5;
        }
        remember(s.copy());
        s.tie(k);
        return s.whole();
    }

    int moves(int k, int from) {
        if (!isString(k) || !isLimb(from)) {
            return -2;
        }
        Thread t = s.strings.get(k);
        if (t.from == from || t.to == from) {
            return -5;
        }
        remember(s.copy());
        int was = t.from;
        s.strings.get(k).from = from;
        return was;
    }

    int swap(int place) {
        if (place < 0 || place + 1 >= s.limbs()) {
            return -3;
        }
        remember(s.copy());
        java.util.Collections.swap(s.order, place, place + 1);
        return s.tangles(s.order);
    }

    int undo(int n) {
        if (n < 1 || n > 10 || n > past.size()) {
            return -3;
        }
        for (int i = 0; i < n; i++) {
            s = past.remove(past.size() - 1);
        }
        return past.size();
    }

    /** Does a deed; why it can't be, or 0. */
    private static int deed(State s, long d) {
        if (d == -1) {
            s.beat();
            return 0;
        }
        if (d >= 0 && d < 100) {
            if (d >= s.limbs()) {
                return 1;
            }
            s.pose ^= 1 << d;
            return 0;
        }
        if (d < 0) {
            return 1;
        }
        long k = d < 200 ? d - 100 : d - 200;
        if (k >= s.strings.size()) {
            return 1;
        }
        Thread t = s.strings.get((int) k);
        if (t.whole == d >= 200) {
            return 2;
        }
        if (d >= 200) {
            s.tie((int) k);
        } else {
            t.whole = false;
        }
        return 0;
    }

    int judge(int row, int what) {
        if (!isRow(row) || what < 0 || what > 3) {
            return -2;
        }
        if (rows[row] == null) {
            return -6;
        }
        State c = s.copy();
        int place = -1;
        int why = 0;
        for (int i = 0; i < rows[row].length && why == 0; i++) {
            why = deed(c, rows[row][i]);
            place = why == 0 ? -1 : i;
        }
        return new int[] {place, why, c.pose, c.whole()}[what];
    }

    int perform(int row) {
        if (!isRow(row)) {
            return -2;
        }
        if (rows[row] == null) {
            return -6;
        }
        State before = s.copy();
        int done = 0;
        while (done < rows[row].length && deed(s, rows[row][done]) == 0) {
            done++;
        }
        if (done > 0) {
            remember(before);
        }
        return done;
    }

    int season(int seed, int times) {
        if (times < 1 || times > 60) {
            return -3;
        }
        if (s.limbs() == 0) {
            return -5;
        }
        remember(s.copy());
        int x = seed;
        for (int i = 0; i < times; i++) {
            x = 1103515245 * x + 12345;
            int sort = (x >>> 16) % 4;
            if (sort == 0) {
                x = 1103515245 * x + 12345;
                s.pose ^= 1 << (x >>> 16) % s.limbs();
            } else if (sort == 1 && !s.strings.isEmpty()) {
                x = 1103515245 * x + 12345;
                int k = (x >>> 16) % s.strings.size();
                if (s.strings.get(k).whole) {
                    s.strings.get(k).whole = false;
                } else {
                    s.tie(k);
                }
            } else {
                s.beat();
            }
        }
        return s.pose;
    }

    int next(int pose) {
        return isPose(pose) ? s.next(pose) : -3;
    }

    int later(int pose, int n) {
        return isPose(pose) && n >= 0 && n <= 9999 ? s.later(pose, n) : -3;
    }

    /** The ring that a pose comes to. */
    private TreeSet<Integer> ring(int pose) {
        int p = s.later(pose, s.poses());
        TreeSet<Integer> ring = new TreeSet<>();
        while (ring.add(p)) {
            p = s.next(p);
        }
        return ring;
    }

    private int lead(int pose) {
        Set<Integer> ring = ring(pose);
        int n = 0;
        while (!ring.contains(pose)) {
            pose = s.next(pose);
            n++;
        }
        return n;
    }

    int round(int pose, int what) {
        if (what < 0 || what > 2) {
            return -2;
        }
        if (!isPose(pose)) {
            return -3;
        }
        return what == 0 ? ring(pose).size() : what == 1 ? lead(pose) : ring(pose).first();
    }

    private static int numbered(Iterable<Integer> all, int k) {
        List<Integer> list = new ArrayList<>();
        all.forEach(list::add);
        return k == -1 ? list.size() : k >= 0 && k < list.size() ? list.get(k) : -1;
    }

    int rests(int k) {
        TreeSet<Integer> found = new TreeSet<>();
        for (int p = 0; p < s.poses(); p++) {
            if (s.next(p) == p) {
                found.add(p);
            }
        }
        return numbered(found, k);
    }

    int rings(int k) {
        TreeSet<Integer> found = new TreeSet<>();
        for (int p = 0; p < s.poses(); p++) {
            found.add(ring(p).first());
        }
        return numbered(found, k);
    }

    int basin(int pose) {
        if (!isPose(pose)) {
            return -3;
        }
        int n = 0;
        for (int p = 0; p < s.poses(); p++) {
            n += ring(p).equals(ring(pose)) ? 1 : 0;
        }
        return n;
    }

    int gardens() {
        Set<Integer> had = new HashSet<>();
        for (int p = 0; p < s.poses(); p++) {
            had.add(s.next(p));
        }
        return s.poses() - had.size();
    }

    int farthest() {
        int best = 0;
        for (int p = 0; p < s.poses(); p++) {
            best = lead(p) > lead(best) ? p : best;
        }
        return best;
    }

    private static int compareWays(List<Integer> a, List<Integer> b) {
        int na = 0;
        int nb = 0;
        for (int i = 0; i < a.size(); i++) {
            na += a.get(i) >= 0 ? 1 : 0;
            nb += b.get(i) >= 0 ? 1 : 0;
        }
        if (na != nb) {
            return na - nb;
        }
        for (int i = 0; i < a.size(); i++) {
            if (!a.get(i).equals(b.get(i))) {
                return a.get(i) - b.get(i);
            }
        }
        return 0;
    }

    int soonest(int pose, int what) {
        if (what < 0 || what > 49 || (what > 1 && what < 10)) {
            return -2;
        }
        if (!isPose(pose)) {
            return -3;
        }
        Map<Integer, List<Integer>> now = new TreeMap<>();
        now.put(s.pose, new ArrayList<>());
        for (int b = 0; b <= 40; b++) {
            if (now.containsKey(pose)) {
                List<Integer> way = now.get(pose);
                int nudges = 0;
                for (int l : way) {
                    nudges += l >= 0 ? 1 : 0;
                }
                return what == 0 ? b : what == 1 ? nudges : what - 10 < b ? way.get(what - 10) : -1;
            }
            Map<Integer, List<Integer>> then = new TreeMap<>();
            for (Map.Entry<Integer, List<Integer>> e : now.entrySet()) {
                for (int l = -1; l < s.limbs(); l++) {
                    int q = s.next(l < 0 ? e.getKey() : e.getKey() ^ 1 << l);
                    List<Integer> way = new ArrayList<>(e.getValue());
                    way.add(l);
                    if (!then.containsKey(q) || compareWays(way, then.get(q)) < 0) {
                        then.put(q, way);
                    }
                }
            }
            now = then;
        }
        return -1;
    }

    private boolean comes(int from, int to) {
        for (int i = 0; i < 60; i++) {
            from = s.next(from);
            if (from == to) {
                return true;
            }
        }
        return false;
    }

    int wakes(int pose) {
        if (!isPose(pose)) {
            return -3;
        }
        if (comes(s.pose, pose)) {
            return 100;
        }
        for (int l = 0; l < s.limbs(); l++) {
            if (comes(s.pose ^ 1 << l, pose)) {
                return l;
            }
        }
        return -1;
    }

    /** The stage with some strings cut as well; null if one of them isn't whole. */
    private State without(int cuts) {
        State c = s.copy();
        for (int k = 0; k < c.strings.size(); k++) {
            if ((cuts >> k & 1) == 1) {
                if (!c.strings.get(k).whole) {
                    return null;
                }
                c.strings.get(k).whole = false;
            }
        }
        return c;
    }

    int cure(int pose, int what) {
        if (what < 0 || what > 1) {
            return -2;
        }
        if (!isPose(pose)) {
            return -3;
        }
        int best = -1;
        for (int cuts = 0; cuts < 1 << s.strings.size(); cuts++) {
            if (best < 0 || Integer.bitCount(cuts) < Integer.bitCount(best)) {
                State c = without(cuts);
                if (c != null && c.next(pose) == pose) {
                    best = cuts;
                }
            }
        }
        return best < 0 ? -1 : what == 0 ? Integer.bitCount(best) : best;
    }

    int works(int l) {
        return isLimb(l) ? bits(s.worked(l)) : -2;
    }

    int part(int l) {
        if (!isLimb(l)) {
            return -2;
        }
        int b = 1 << l;
        for (int o = 0; o < s.limbs(); o++) {
            b |= s.worked(l).contains(o) && s.worked(o).contains(l) ? 1 << o : 0;
        }
        return b;
    }

    int parts() {
        Set<Integer> all = new HashSet<>();
        for (int l = 0; l < s.limbs(); l++) {
            all.add(part(l));
        }
        return all.size();
    }

    int free(int l, int other) {
        if (!isLimb(l) || !isLimb(other)) {
            return -2;
        }
        if (l == other) {
            return -1;
        }
        int best = -1;
        for (int cuts = 0; cuts < 1 << s.strings.size(); cuts++) {
            if (best < 0 || Integer.bitCount(cuts) < best) {
                State c = without(cuts);
                if (c != null && !c.worked(l).contains(other)) {
                    best = Integer.bitCount(cuts);
                }
            }
        }
        return best;
    }

    int stops(int k) {
        if (!isString(k)) {
            return -2;
        }
        if (!s.strings.get(k).whole) {
            return -5;
        }
        int l = s.strings.get(k).from;
        Set<Integer> lost = s.worked(l);
        lost.removeAll(without(1 << k).worked(l));
        return bits(lost);
    }

    private boolean isScene(long v) {
        long told = v / 1024;
        long up = v % 1024;
        return v >= 0 && told < s.poses() && (told & up) == up;
    }

    private static boolean isSo(long scene, int pose) {
        int told = (int) (scene / 1024);
        return (pose & told) == scene % 1024;
    }

    private int refusedScript(int row) {
        if (!isRow(row)) {
            return -2;
        }
        if (rows[row] == null) {
            return -6;
        }
        if (rows[row].length < 1 || rows[row].length > 12) {
            return -4;
        }
        for (long v : rows[row]) {
            if (!isScene(v)) {
                return -3;
            }
        }
        return 0;
    }

    int begins(int row, int k) {
        if (refusedScript(row) != 0) {
            return refusedScript(row);
        }
        TreeSet<Integer> found = new TreeSet<>();
        for (int p = 0; p < s.poses(); p++) {
            boolean so = true;
            for (int i = 0; i < rows[row].length; i++) {
                so &= isSo(rows[row][i], s.later(p, i));
            }
            if (so) {
                found.add(p);
            }
        }
        return numbered(found, k);
    }

    int rehearse(int row) {
        if (refusedScript(row) != 0) {
            return refusedScript(row);
        }
        Map<Integer, Integer> cost = new TreeMap<>();
        cost.put(s.pose, 0);
        for (long scene : rows[row]) {
            Map<Integer, Integer> then = new TreeMap<>();
            for (int q = 0; q < s.poses(); q++) {
                for (Map.Entry<Integer, Integer> e : cost.entrySet()) {
                    if (isSo(scene, q)) {
                        then.merge(q, e.getValue() + Integer.bitCount(e.getKey() ^ q), Math::min);
                    }
                }
            }
            cost = new TreeMap<>();
            for (Map.Entry<Integer, Integer> e : then.entrySet()) {
                cost.merge(s.next(e.getKey()), e.getValue(), Math::min);
            }
        }
        int best = Integer.MAX_VALUE;
        for (int c : cost.values()) {
            best = Math.min(best, c);
        }
        return best;
    }

    int tangles() {
        return s.tangles(s.order);
    }

    int leastTangles() {
        return s.limbs() > 7 ? -4 : least(new ArrayList<>());
    }

    private int least(List<Integer> lie) {
        if (lie.size() == s.limbs()) {
            return s.tangles(lie);
        }
        int best = Integer.MAX_VALUE;
        for (int l = 0; l < s.limbs(); l++) {
            if (!lie.contains(l)) {
                List<Integer> more = new ArrayList<>(lie);
                more.add(l);
                best = Math.min(best, least(more));
            }
        }
        return best;
    }

    private static int held(int pose, int l, int choice) {
        return choice == 0 ? pose : choice == 1 ? pose | 1 << l : pose & ~(1 << l);
    }

    int two(int l, int scene, int other, int otherScene, int what) {
        if (!isLimb(l) || !isLimb(other) || l == other || what < 0 || what > 3) {
            return -2;
        }
        if (!isScene(scene) || !isScene(otherScene)) {
            return -3;
        }
        int[][][] has = new int[3][3][2];
        for (int a = 0; a < 3; a++) {
            for (int b = 0; b < 3; b++) {
                int p = held(held(s.pose, l, a), other, b);
                for (int i = 0; i < 60; i++) {
                    p = held(held(s.next(p), l, a), other, b);
                    has[a][b][0] += isSo(scene, p) ? 1 : 0;
                    has[a][b][1] += isSo(otherScene, p) ? 1 : 0;
                }
            }
        }
        for (int a = 0; a < 3; a++) {
            for (int b = 0; b < 3; b++) {
                boolean rest = true;
                for (int c = 0; c < 3; c++) {
                    rest &= has[c][b][0] <= has[a][b][0] && has[a][c][1] <= has[a][b][1];
                }
                if (rest) {
                    return new int[] {a, b, has[a][b][0], has[a][b][1]}[what];
                }
            }
        }
        return -1;
    }

    int power(int l, int n) {
        if (!isLimb(l)) {
            return -2;
        }
        if (n < 0 || n > 99) {
            return -3;
        }
        int found = 0;
        for (int p = 0; p < s.poses(); p++) {
            found += s.later(p, n) != s.later(p ^ 1 << l, n) ? 1 : 0;
        }
        return found;
    }

    private int refusedFilm(int row, int l) {
        if (!isRow(row) || !isLimb(l)) {
            return -2;
        }
        if (rows[row] == null) {
            return -6;
        }
        if (rows[row].length < 2 || rows[row].length > 30) {
            return -4;
        }
        for (long v : rows[row]) {
            if (!isPose(v)) {
                return -3;
            }
        }
        return 0;
    }

    private static boolean tells(int[] guess, int pose) {
        return Integer.bitCount(pose & guess[0]) >= guess[1];
    }

    /** All that fit, each as set and need, by sets, then needs. */
    private List<int[]> fitting(int row, int l) {
        List<int[]> all = new ArrayList<>();
        for (int set = 1; set < s.poses(); set++) {
            for (int need = 1; need <= Integer.bitCount(set) && (set >> l & 1) == 0; need++) {
                int[] guess = {set, need};
                boolean fits = true;
                for (int i = 0; i + 1 < rows[row].length; i++) {
                    fits &= tells(guess, (int) rows[row][i]) == ((rows[row][i + 1] >> l & 1) == 1);
                }
                if (fits) {
                    all.add(guess);
                }
            }
        }
        return all;
    }

    int fits(int row, int l) {
        return refusedFilm(row, l) != 0 ? refusedFilm(row, l) : fitting(row, l).size();
    }

    int fewest(int row, int l, int what) {
        if (what < 0 || what > 1) {
            return -2;
        }
        if (refusedFilm(row, l) != 0) {
            return refusedFilm(row, l);
        }
        int[] best = null;
        for (int[] g : fitting(row, l)) {
            if (best == null || Integer.bitCount(g[0]) < Integer.bitCount(best[0])) {
                best = g;
            }
        }
        return best == null ? -1 : best[what];
    }

    int sure(int row, int l) {
        if (refusedFilm(row, l) != 0) {
            return refusedFilm(row, l);
        }
        int common = -1;
        for (int[] g : fitting(row, l)) {
            common &= g[0];
        }
        return common;
    }

    int telling(int row, int l) {
        if (refusedFilm(row, l) != 0) {
            return refusedFilm(row, l);
        }
        List<int[]> all = fitting(row, l);
        if (all.size() < 2) {
            return -1;
        }
        int best = -1;
        int bestLeft = Integer.MAX_VALUE;
        for (int p = 0; p < s.poses(); p++) {
            int up = 0;
            for (int[] g : all) {
                up += tells(g, p) ? 1 : 0;
            }
            int left = Math.max(up, all.size() - up);
            if (left < bestLeft) {
                bestLeft = left;
                best = p;
            }
        }
        return best;
    }

    int film(int row) {
        if (!isRow(row)) {
            return -2;
        }
        if (rows[row] == null) {
            return -6;
        }
        for (int i = 0; i < rows[row].length; i++) {
            write(row, i, s.later(s.pose, i));
        }
        return rows[row].length;
    }

    int breaks(int what) {
        if (what < 0 || what > 1) {
            return -2;
        }
        if (s.life == 0) {
            return -5;
        }
        State c = s.copy();
        for (int b = 0; b < 200; b++) {
            c.beat();
            for (int k = 0; k < c.strings.size(); k++) {
                if (s.strings.get(k).whole && !c.strings.get(k).whole) {
                    return what == 0 ? b : k;
                }
            }
        }
        return -1;
    }

    int numbers(int row, int sort, int n) {
        if (!isRow(row) || sort < 0 || sort > 3) {
            return -2;
        }
        if (n < 0 || n > 40) {
            return -3;
        }
        rows[row] = new long[n];
        sorts[row] = sort;
        return 0;
    }

    long write(int row, int i, long v) {
        if (!isRow(row)) {
            return -2;
        }
        if (rows[row] == null) {
            return -6;
        }
        if (i < 0 || i >= rows[row].length) {
            return -7;
        }
        int away = 64 - (8 << sorts[row]);
        return rows[row][i] = v << away >> away;
    }

    int image(int i) {
        if (i < 0 || i > 1) {
            return -2;
        }
        images[i] = s.copy();
        return 0;
    }

    int restore(int i) {
        if (i < 0 || i > 1) {
            return -2;
        }
        if (images[i] == null) {
            return -5;
        }
        s = images[i].copy();
        past.clear();
        return 0;
    }

    int count(int what) {
        if (what < 0 || what > 9) {
            return -1;
        }
        return new int[] {s.puppets, s.limbs(), s.strings.size(), s.whole(), s.pose, past.size(), s.life,
            s.rules.size(), tape.length(), s.lines}[what];
    }
}
