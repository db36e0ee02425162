import java.io.IOException;
import java.nio.charset.StandardCharsets;
import java.nio.file.Files;
import java.nio.file.Path;
import java.util.ArrayList;
import java.util.List;
import java.util.regex.Matcher;
import java.util.regex.Pattern;
import javax.tools.ToolProvider;

/**
 * README.md's example answers what it says it does, and README.md names every test. A line of the example whose
 * comment begins with a number tells the call's answer. Runs in the project's folder.
 */
public final class DawnHouseReadme {
    private static final Pattern EXAMPLE = Pattern.compile("(?s)```java\n(.*?)```");
    private static final Pattern TOLD = Pattern.compile("(house\\..*\\)); *// (-?[0-9]+)\\b.*");
    private static int wrong = 0;

    public static void main(String[] args) throws Exception {
        String readme = Files.readString(Path.of("README.md"), StandardCharsets.UTF_8);
        Matcher example = EXAMPLE.matcher(readme);
        must(example.find(), "README.md has an example");
        if (wrong == 0) {
            runExample(example.group(1));
        }
        for (String test : tests()) {
            must(readme.contains("| " + test + " |"), "README.md tells of " + test);
        }
        must(readme.contains("`.ci/run`"), "README.md says how to run the tests");
        System.out.println(wrong == 0 ? "README.md holds" : wrong + " things are not as README.md says");
        if (wrong != 0) {
            System.exit(1);
        }
    }

    private static void must(boolean holds, String what) {
        if (!holds) {
            wrong++;
            System.out.println("not so: " + what);
        }
    }

    public static void due(String call, long got, long want) {
        must(got == want, call + " answers " + want + ", not " + got);
    }

    private static List<String> tests() throws IOException {
        List<String> names = new ArrayList<>();
        try (var files = Files.list(Path.of("src/test/java"))) {
            files.forEach(f -> names.add(f.getFileName().toString().replace(".java", "")));
        }
        return names;
    }

    private static void runExample(String code) throws Exception {
        StringBuilder body = new StringBuilder();
        int told = 0;
        for (String line : code.split("\n")) {
            Matcher m = TOLD.matcher(line);
            boolean tells = m.matches();
            told += tells ? 1 : 0;
            body.append(tells ? "DawnHouseReadme.due(\"" + m.group(1) + "\", " + m.group(1) + ", " + m.group(2) + ");" : line).append("\n");
        }
        must(told >= 3, "the example tells answers");
        Path folder = Files.createTempDirectory("readme");
        Path file = folder.resolve("ReadmeExample.java");
        try {
            Files.writeString(file, "public final class ReadmeExample { public static void main(String[] args) {\n" + body + "} }\n");
            String classPath = System.getProperty("java.class.path");
            int bad = ToolProvider.getSystemJavaCompiler().run(null, null, null, "-cp", classPath, "-d", folder.toString(), file.toString());
            must(bad == 0, "the example compiles");
            if (bad == 0) {
                try (var loader = new java.net.URLClassLoader(new java.net.URL[] {folder.toUri().toURL()})) {
                    loader.loadClass("ReadmeExample").getMethod("main", String[].class).invoke(null, (Object) new String[0]);
                }
            }
        } finally {
            Files.deleteIfExists(folder.resolve("ReadmeExample.class"));
            Files.deleteIfExists(file);
            Files.deleteIfExists(folder);
        }
    }
}
