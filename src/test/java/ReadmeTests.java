import java.io.IOException;
import java.net.URL;
import java.net.URLClassLoader;
import java.nio.file.Files;
import java.nio.file.Path;
import java.util.ArrayList;
import java.util.List;
import java.util.regex.Matcher;
import java.util.regex.Pattern;
import javax.tools.JavaCompiler;
import javax.tools.ToolProvider;

/** Runs the README's example as it stands there: each call must answer what is written behind it. */
public final class ReadmeTests extends Check {
    private static final Pattern BLOCK = Pattern.compile("```java\n(.*?)```", Pattern.DOTALL);
    private static final Pattern ANSWERED = Pattern.compile("(office\\..*); +// (-?\\d+|true|false)\\b.*");

    private static List<String> blocksOf(String readme) {
        List<String> blocks = new ArrayList<>();
        Matcher block = BLOCK.matcher(readme);
        while (block.find()) {
            blocks.add(block.group(1));
        }
        return blocks;
    }

    /** A class whose answers() makes the example's calls; the calls and what is due are added to the lists. */
    private static String sourceOf(String helper, String example, List<String> calls, List<String> answers) {
        StringBuilder source = new StringBuilder("import java.nio.ByteBuffer;\nimport java.nio.charset.StandardCharsets;\n"
            + "import java.util.*;\npublic class ReadmeExample {\n" + helper
            + "public static List<Object> answers() {\nList<Object> all = new ArrayList<>();\n");
        for (String line : example.split("\n")) {
            Matcher answered = ANSWERED.matcher(line);
            if (answered.matches()) {
                calls.add(answered.group(1));
                answers.add(answered.group(2));
                source.append("all.add(").append(answered.group(1)).append(");\n");
            } else {
                due("a call with its answer behind it: " + line, line.startsWith("office."), false);
                source.append(line).append('\n');
            }
        }
        return source.append("return all;\n}\n}\n").toString();
    }

    private static List<?> run(String source) throws IOException, ReflectiveOperationException {
        Path out = Files.createTempDirectory("readme");
        Path file = Files.writeString(out.resolve("ReadmeExample.java"), source);
        out.toFile().deleteOnExit();
        file.toFile().deleteOnExit();
        out.resolve("ReadmeExample.class").toFile().deleteOnExit();
        JavaCompiler compiler = ToolProvider.getSystemJavaCompiler();
        int failed = compiler.run(null, null, null, "-cp", System.getProperty("java.class.path"), "-d", out.toString(), file.toString());
        due("the compiler on the example", failed, 0);
        if (failed != 0) {
            return List.of();
        }
        try (URLClassLoader loader = new URLClassLoader(new URL[] {out.toUri().toURL()})) {
            return (List<?>) loader.loadClass("ReadmeExample").getMethod("answers").invoke(null);
        }
    }

    public static void main(String[] args) throws IOException, ReflectiveOperationException {
        List<String> blocks = blocksOf(Files.readString(Path.of("README.md")));
        due("blocks of Java", blocks.size(), 2);
        List<String> calls = new ArrayList<>();
        List<String> answers = new ArrayList<>();
        List<?> got = blocks.size() == 2 ? run(sourceOf(blocks.get(0), blocks.get(1), calls, answers)) : List.of();
        due("answers", got.size(), calls.size());
        due("some calls", calls.isEmpty(), false);
        for (int i = 0; i < got.size(); i++) {
            due(calls.get(i) + " answered " + got.get(i) + ", README: " + answers.get(i), got.get(i).toString().equals(answers.get(i)), true);
        }
        tell("ReadmeTests");
    }
}
