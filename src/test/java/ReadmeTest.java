import java.io.IOException;
import java.net.URL;
import java.net.URLClassLoader;
import java.nio.file.Files;
import java.nio.file.Path;
import java.util.ArrayList;
import java.util.List;
import java.util.regex.Matcher;
import java.util.regex.Pattern;
import javax.tools.ToolProvider;

/** The example of README.md is compiled and run: a line that tells an answer ("// 2: ...") has to give it. */
public final class ReadmeTest {
    private static final Pattern TOLD = Pattern.compile("(?:int (\\w+) = )?(x\\..*\\));\\s*// (-?\\d+): .*");

    private static final Due due = new Due();

    private final List<String> calls = new ArrayList<>();
    private final List<Integer> wanted = new ArrayList<>();

    public static void main(String[] args) throws Exception {
        new ReadmeTest().go();
        due.finish("ReadmeTest");
    }

    private void go() throws Exception {
        List<Integer> answers = run(program(example()));
        due.isTrue("answers are told", !wanted.isEmpty());
        due.is("as many as are told", answers.size(), wanted.size());
        for (int i = 0; i < answers.size() && i < wanted.size(); i++) {
            due.is("README.md: " + calls.get(i), answers.get(i), wanted.get(i));
        }
    }

    private static List<String> example() throws IOException {
        List<String> all = Files.readAllLines(Path.of(System.getProperty("readme", "README.md")));
        int first = all.indexOf("```java") + 1;
        int behind = first + all.subList(first, all.size()).indexOf("```");
        return all.subList(first, behind);
    }

    private String program(List<String> lines) {
        StringBuilder code = new StringBuilder("public final class ReadmeExample implements java.util.function.Supplier<java.util.List<Integer>> {\n"
            + "public java.util.List<Integer> get() {\njava.util.List<Integer> answers = new java.util.ArrayList<>();\n");
        for (String line : lines) {
            Matcher m = TOLD.matcher(line);
            if (m.matches()) {
                calls.add(m.group(2));
                wanted.add(Integer.valueOf(m.group(3)));
                boolean named = m.group(1) != null;
                code.append(named ? line + "\n" : "").append("answers.add(").append(named ? m.group(1) : m.group(2)).append(");\n");
            } else {
                code.append(line).append('\n');
            }
        }
        return code.append("return answers;\n}\n}\n").toString();
    }

    private static List<Integer> run(String code) throws Exception {
        Path place = Files.createTempDirectory("readme");
        Path source = Files.writeString(place.resolve("ReadmeExample.java"), code);
        int exit = ToolProvider.getSystemJavaCompiler().run(null, null, null,
            "-cp", System.getProperty("java.class.path"), "-d", place.toString(), source.toString());
        due.is("the example compiles", exit, 0);
        List<Integer> answers = new ArrayList<>();
        if (exit == 0) {
            try (URLClassLoader loader = new URLClassLoader(new URL[] {place.toUri().toURL()})) {
                Object example = loader.loadClass("ReadmeExample").getConstructor().newInstance();
                for (Object answer : (List<?>) ((java.util.function.Supplier<?>) example).get()) {
                    answers.add((Integer) answer);
                }
            }
        }
        Files.deleteIfExists(place.resolve("ReadmeExample.class"));
        Files.deleteIfExists(source);
        Files.deleteIfExists(place);
        return answers;
    }
}
