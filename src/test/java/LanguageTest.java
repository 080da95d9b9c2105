import java.lang.management.ManagementFactory;
import java.lang.reflect.Field;
import java.lang.reflect.Member;
import java.lang.reflect.Method;
import java.lang.reflect.Modifier;
import java.nio.file.Files;
import java.nio.file.Path;
import java.util.ArrayList;
import java.util.List;
import java.util.Set;
import java.util.TreeSet;
import java.util.regex.Matcher;
import java.util.regex.Pattern;

/** Those rules of ../shared/LANGUAGE.md that can be seen in the source, in the class, or in what a run makes. */
public final class LanguageTest {
    private static int wrong;

    private static void rule(int number, boolean kept, String what) {
        if (!kept) {
            wrong++;
            System.out.println("rule " + number + ": " + what);
        }
    }

    private static final String[] FACE = {
        "int feed(int,int,int,int,int)", "int troupe(int)", "int fault(int)", "int limb(int,int)",
        "int string(int,int)", "int nudge(int)", "int strike(int)", "int beat(int)", "int cut(int)", "int tie(int)",
        "int moves(int,int)", "int swap(int)", "int undo(int)", "int judge(int,int)", "int perform(int)",
        "int season(int,int)", "int next(int)", "int later(int,int)", "int round(int,int)", "int rests(int)",
        "int rings(int)", "int basin(int)", "int gardens()", "int farthest()", "int soonest(int,int)",
        "int wakes(int)", "int cure(int,int)", "int works(int)", "int part(int)", "int parts()",
        "int free(int,int)", "int stops(int)", "int begins(int,int)", "int rehearse(int)", "int tangles()",
        "int leastTangles()", "int two(int,int,int,int,int)", "int power(int,int)", "int fits(int,int)",
        "int fewest(int,int,int)", "int sure(int,int)", "int telling(int,int)", "int film(int)", "int breaks(int)",
        "int numbers(int,int,int)", "long write(int,int,long)", "int image(int)", "int restore(int)",
        "int count(int)"};

    private static String described(Method m) {
        List<String> types = new ArrayList<>();
        for (Class<?> t : m.getParameterTypes()) {
            types.add(t.getName());
        }
        return m.getReturnType().getName() + " " + m.getName() + "(" + String.join(",", types) + ")";
    }

    private static void face() {
        Set<String> seen = new TreeSet<>();
        for (Method m : StringHands.class.getDeclaredMethods()) {
            if (Modifier.isPublic(m.getModifiers())) {
                seen.add(described(m));
            }
        }
        rule(1, seen.equals(new TreeSet<>(List.of(FACE))), "the face has " + seen);
        rule(1, Modifier.isFinal(StringHands.class.getModifiers()), "the class is not final");
        rule(1, StringHands.class.getConstructors().length == 1, "constructors");
        for (Field f : StringHands.class.getDeclaredFields()) {
            boolean isConstant = f.getName().equals("NONE") && Modifier.isPublic(f.getModifiers());
            rule(1, isConstant || Modifier.isPrivate(f.getModifiers()), f + " can be seen");
        }
        for (Method m : StringHands.class.getDeclaredMethods()) {
            rule(1, Modifier.isPublic(m.getModifiers()) || Modifier.isPrivate(m.getModifiers()), m + " can be seen");
        }
    }

    private static List<Class<?>> all() {
        List<Class<?>> all = new ArrayList<>(List.of(StringHands.class.getDeclaredClasses()));
        all.add(StringHands.class);
        return all;
    }

    private static void classes() {
        Set<String> publicNames = new TreeSet<>();
        for (String f : FACE) {
            publicNames.add(f.substring(f.indexOf(' ') + 1, f.indexOf('(')));
        }
        rule(11, all().size() <= 12, all().size() + " classes");
        for (Class<?> c : all()) {
            rule(2, c == StringHands.class || Modifier.isStatic(c.getModifiers()), c + " is not static");
            int fields = 0;
            for (Field f : c.getDeclaredFields()) {
                boolean isStatic = Modifier.isStatic(f.getModifiers());
                fields += isStatic ? 0 : 1;
                rule(5, !isStatic || Modifier.isFinal(f.getModifiers()), f + " is not final");
            }
            rule(11, fields <= 20, c + " has " + fields + " fields");
            for (Method m : c.getDeclaredMethods()) {
                rule(11, m.getParameterCount() <= 7, m + " takes too many");
                boolean isOwn = c != StringHands.class || !Modifier.isPublic(m.getModifiers());
                rule(1, !isOwn || !publicNames.contains(m.getName()), m + " bears a public name");
            }
            for (Member m : c.getDeclaredMethods()) {
                rule(2, !m.isSynthetic(), m + " is made by the compiler");
            }
        }
    }

    private static String withoutCommentsAndTexts(String source) {
        return source.replaceAll("(?s)/\\*.*?\\*/", " ").replaceAll("//[^\n]*", " ")
                .replaceAll("\"[^\"\n]*\"", "\"\"").replaceAll("'.'", "0");
    }

    private static void source(String text) {
        String code = withoutCommentsAndTexts(text);
        String[] words = {"throw", "throws", "try", "catch", "synchronized", "assert", "package", "finally", "protected",
            "volatile", "native", "strictfp", "double", "float", "Object", "hashCode", "toString", "Random",
            "Thread", "System.in", "System.out", "System.exit", "System.currentTimeMillis", "System.nanoTime"};
        for (String w : words) {
            rule(6, !Pattern.compile("\\b" + Pattern.quote(w) + "\\b").matcher(code).find(), "'" + w + "' in the source");
        }
        rule(2, !code.contains("->") && !code.contains("::"), "a lambda or a method reference");
        rule(9, !Pattern.compile("(while|for) ?\\((true|;;)").matcher(code).find(), "a loop without an end");
        Matcher imports = Pattern.compile("import ([^;]*);").matcher(code);
        while (imports.find()) {
            rule(4, Set.of("java.util.Arrays", "java.util.ArrayList", "java.util.List").contains(imports.group(1)), imports.group(1));
        }
        Matcher statics = Pattern.compile("(Math|Integer|Long|Arrays|System)\\.(\\w+)\\(").matcher(code);
        Set<String> allowed = Set.of("max", "min", "abs", "bitCount", "numberOfTrailingZeros", "fill", "arraycopy");
        while (statics.find()) {
            rule(4, allowed.contains(statics.group(2)), statics.group());
        }
        for (int i = 0; i < text.length(); i++) {
            rule(4, text.charAt(i) < 127, "the sign at " + i);
        }
    }

    /** A method begins at a line that ends in '{' and ends at the first '}' with the same blanks ahead. */
    private static void lengths(String text) {
        String[] lines = text.split("\n");
        Pattern head = Pattern.compile("^( {4}| {8})(?=\\S)(?!if|for|while|switch|else|do)[\\w\\[\\]<> ]+\\([^;]*\\) \\{$");
        int methods = 0;
        for (int i = 0; i < lines.length; i++) {
            Matcher m = head.matcher(lines[i]);
            if (m.find()) {
                int end = i;
                while (!lines[end].equals(m.group(1) + "}")) {
                    end++;
                }
                methods++;
                rule(11, end - i < 60, "the method at line " + (i + 1) + " has " + (end - i + 1) + " lines");
            }
        }
        rule(11, methods > 100, "only " + methods + " methods were found to be looked at");
    }

    /** No call makes anything: the rows are made with the object. Some bytes are left for the machine's own. */
    private static void room() {
        com.sun.management.ThreadMXBean bean = (com.sun.management.ThreadMXBean) ManagementFactory.getThreadMXBean();
        long thread = Thread.currentThread().getId();
        for (int round = 0; round < 3; round++) {
            long before = bean.getThreadAllocatedBytes(thread);
            StringHands x = new StringHands();
            long made = bean.getThreadAllocatedBytes(thread) - before;
            rule(12, made < 400_000, "an object takes " + made + " bytes");
            x.feed(0x70757070, 0x65742036, 0x3B737472, 0x696E6720, 0x3020746F);
            x.feed(0x20353B20, 0x20202020, 0x20202020, 0x20202020, 0x20202020);
            before = bean.getThreadAllocatedBytes(thread);
            x.troupe(25);
            callAll(x);
            made = bean.getThreadAllocatedBytes(thread) - before;
            rule(12, round == 0 || made < 2_000, "calls make " + made + " bytes");
            rule(12, x.count(1) == 6 && x.count(2) == 1, "the text of this test");
        }
    }

    private static void callAll(StringHands x) {
        x.numbers(0, 2, 3);
        for (int i = 0; i < 5; i++) {
            x.nudge(i);
            x.strike(i);
            x.beat(9);
            x.cut(0);
            x.tie(0);
            x.moves(0, i);
            x.swap(i);
            x.undo(1);
            x.judge(0, i);
            x.perform(0);
            x.season(i, 9);
            x.later(i, 99);
            x.round(i, i);
            x.rests(i);
            x.rings(i);
            x.basin(i);
            x.gardens();
            x.farthest();
            x.soonest(i, 0);
            x.wakes(i);
            x.cure(i, 0);
            x.works(i);
            x.part(i);
            x.parts();
            x.free(i, 5);
            x.stops(0);
            x.begins(0, i);
            x.rehearse(0);
            x.leastTangles();
            x.two(i, 0, 5, 0, 0);
            x.power(i, 9);
            x.film(0);
            x.fits(0, i);
            x.fewest(0, i, 0);
            x.sure(0, i);
            x.telling(0, i);
            x.breaks(0);
            x.image(0);
            x.restore(0);
        }
    }

    public static void main(String[] args) throws Exception {
        String text = Files.readString(Path.of("src/main/java/StringHands.java"));
        face();
        classes();
        source(text);
        lengths(text);
        room();
        System.out.println(wrong == 0 ? "the rules of the language are kept" : wrong + " breaches of the rules");
        System.exit(wrong == 0 ? 0 : 1);
    }
}
