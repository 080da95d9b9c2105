import java.lang.reflect.InvocationTargetException;
import java.lang.reflect.Method;
import java.lang.reflect.Modifier;
import java.util.ArrayList;
import java.util.Comparator;
import java.util.List;
import java.util.Random;

/** All calls with numbers of every size, in states made by texts of drawn tokens: none may throw. */
public final class NeverThrowsTest {
    private static final long[] SIZES = {Long.MIN_VALUE, Integer.MIN_VALUE, -1025, -31, -2, -1, 0, 0, 1, 1, 2, 2, 3, 4, 5,
        6, 7, 9, 10, 11, 12, 15, 16, 17, 30, 31, 39, 40, 41, 49, 50, 60, 61, 99, 100, 115, 116, 200, 215, 216, 900, 1023, 1024,
        1025, 3075, 9999, 10000, 1048575, 1048576, Integer.MAX_VALUE, 1L << 32, Long.MAX_VALUE};
    private static final String[] TOKENS = {"puppet ", "string ", "to ", "times ", "turned ", "need ", "rule ", "up ", "life ",
        "or ", "and ", "not ", "me ", "pulls ", ";", ":", "+", "-", "*", "(", ")", "[", "]", "=", "<", ">", "0 ", "1 ", "2 ",
        "3 ", "9 ", "10 ", "999 ", "1000 ", "puppet 6;", "puppet 4;", "puppet 2;", "string 0 to 1;", "string 1 to 0 turned;",
        "string 1 to 2 times 3;", "up 0;", "life 2;", "rule 0 : me = 0;", "rule 1 : pulls > 1;", "\n", "A", "\u00ff"};

    /** From this token on, but for the last two, each is a line that can stand anywhere. */
    private static final int FIRST_LINE = 37;

    private static String soup(Random draw) {
        StringBuilder t = new StringBuilder("puppet " + (3 + draw.nextInt(4)) + ";");
        t.append(draw.nextInt(2) == 0 ? "puppet 4;" : "");
        // Mostly whole lines, so that many texts are read to their end.
        boolean whole = draw.nextInt(3) > 0;
        int from = whole ? FIRST_LINE : 0;
        int to = whole ? TOKENS.length - 2 : TOKENS.length;
        int n = draw.nextInt(36);
        for (int i = 0; i < n; i++) {
            t.append(TOKENS[from + draw.nextInt(to - from)]);
        }
        return t.toString();
    }

    private static void tell(StringHands x, String text, Random draw) {
        int n = Math.min(900, text.length());
        for (int i = 0; i < n; i += 20) {
            int[] w = new int[5];
            for (int j = 0; j < 20; j++) {
                w[j / 4] |= (i + j < n ? text.charAt(i + j) & 255 : 32) << 24 - j % 4 * 8;
            }
            x.feed(w[0], w[1], w[2], w[3], w[4]);
        }
        x.troupe(draw.nextInt(20) == 0 ? draw.nextInt(n + 1) : n);
    }

    private static Object[] drawn(Method m, Random draw) {
        Object[] args = new Object[m.getParameterCount()];
        for (int i = 0; i < args.length; i++) {
            long v = SIZES[draw.nextInt(SIZES.length)];
            args[i] = m.getParameterTypes()[i] == long.class ? (Object) v : (Object) (int) v;
        }
        return args;
    }

    public static void main(String[] args) throws Exception {
        List<Method> calls = new ArrayList<>();
        for (Method m : StringHands.class.getDeclaredMethods()) {
            if (Modifier.isPublic(m.getModifiers())) {
                calls.add(m);
            }
        }
        calls.sort(Comparator.comparing(Method::getName));
        int bad = 0;
        int read = 0;
        for (int seed = 0; seed < 600 && bad < 5; seed++) {
            Random draw = new Random(seed);
            StringHands x = new StringHands();
            for (int i = 0; i < 480; i++) {
                if (i % 60 == 0) {
                    tell(x, soup(draw), draw);
                    read += x.fault(0) == 0 ? 1 : 0;
                }
                Method m = calls.get(draw.nextInt(calls.size()));
                Object[] given = drawn(m, draw);
                try {
                    m.invoke(x, given);
                } catch (InvocationTargetException e) {
                    bad++;
                    System.out.println("seed " + seed + ": " + m.getName() + List.of(given) + " threw " + e.getCause());
                }
            }
        }
        if (read < 1000) {
            bad++;
            System.out.println("only " + read + " texts were read: the states are too poor");
        }
        System.out.println(bad == 0 ? "no call throws" : bad + " calls threw");
        System.exit(bad == 0 ? 0 : 1);
    }
}
