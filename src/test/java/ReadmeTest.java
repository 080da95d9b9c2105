import java.net.URL;
import java.net.URLClassLoader;
import java.nio.file.Files;
import java.nio.file.Path;
import java.util.regex.Matcher;
import java.util.regex.Pattern;
import javax.tools.ToolProvider;

/** Compiles and runs the example of README.md: each answer must be the one that is told beside its call. */
public final class ReadmeTest {
    private static final Pattern BLOCK = Pattern.compile("```java\n(.*?)```", Pattern.DOTALL);
    private static final Pattern ANSWERED = Pattern.compile("(?m)^(\\w+\\([^;]*\\)|x\\.[^;]*);  +// (-?\\d+)");

    /** A class of the blocks: first what the example's calls need, then those, each answer judged. */
    private static String program(String readme) {
        Matcher blocks = BLOCK.matcher(readme);
        String needs = blocks.find() ? blocks.group(1) : "";
        String calls = blocks.find() ? blocks.group(1) : "";
        return "public final class ReadmeExample {\n" + needs + "static int asked; static int wrong;\n"
                + "static void due(long got, long want) { asked++; if (got != want) { wrong++;"
                + "System.out.println(\"answer \" + asked + \" is \" + got + \", README.md has \" + want); } }\n"
                + "public static int run() {\n" + judged(calls)
                + "return asked == " + told(calls) + " ? wrong : 1;\n}\n}\n";
    }

    /** So many answers stand beside calls; each of them must be asked. */
    private static int told(String calls) {
        return calls.split(";  +// ", -1).length - 1;
    }

    /** A text in quotes may hold the sign that ends a call, so texts are taken out first. */
    private static String judged(String calls) {
        String joined = calls.replaceAll("\"\\s*\\+ \"", "");
        StringBuilder texts = new StringBuilder();
        Matcher quoted = Pattern.compile("\"[^\"]*\"").matcher(joined);
        int n = 0;
        String plain = joined;
        while (quoted.find()) {
            texts.append("String text").append(n).append(" = ").append(quoted.group()).append(";\n");
            plain = plain.replace(quoted.group(), "text" + n);
            n++;
        }
        return texts + ANSWERED.matcher(plain).replaceAll("due($1, $2); //");
    }

    private static int compiledAndRun(Path dir, String program) throws Exception {
        Path file = dir.resolve("ReadmeExample.java");
        Files.writeString(file, program);
        String path = System.getProperty("java.class.path");
        int refused = ToolProvider.getSystemJavaCompiler().run(null, null, null, "-cp", path, "-d", dir.toString(),
                file.toString());
        if (refused != 0) {
            return 1;
        }
        try (URLClassLoader loader = new URLClassLoader(new URL[] {dir.toUri().toURL()})) {
            return (int) loader.loadClass("ReadmeExample").getMethod("run").invoke(null);
        }
    }

    public static void main(String[] args) throws Exception {
        String readme = Files.readString(Path.of("README.md"));
        Path dir = Files.createTempDirectory("readme");
        int wrong;
        try {
            wrong = compiledAndRun(dir, program(readme));
        } finally {
            try (var files = Files.list(dir)) {
                for (Path p : (Iterable<Path>) files::iterator) {
                    Files.delete(p);
                }
            }
            Files.delete(dir);
        }
        System.out.println(wrong == 0 ? "the example of README.md is answered so" : "README.md is not as it is");
        System.exit(wrong == 0 ? 0 : 1);
    }
}
