import java.lang.reflect.Method;
import java.lang.reflect.Modifier;
import java.net.URL;
import java.net.URLClassLoader;
import java.nio.file.Files;
import java.nio.file.Path;
import java.util.ArrayList;
import java.util.List;
import java.util.regex.Matcher;
import java.util.regex.Pattern;
import javax.tools.ToolProvider;

/** What README.md tells: its examples run, each answer beside a call is the one that comes, and no call is left out. */
public final class ReadmeTests {
    private static final Pattern BLOCK = Pattern.compile("(?s)```java\n(.*?)```");
    private static final Pattern ANSWERED = Pattern.compile("((?:bridge\\.|tell\\().*\\));\\s*// (true|false|-?\\d+)(?::.*)?");
    private static int wrong = 0;

    public static void main(String[] args) throws Exception {
        String page = Files.readString(Path.of("README.md"));
        callsAreTold(page);
        textsAreTold(page);
        testsAreTold(page);
        examplesRun(page);
        System.out.println(wrong == 0 ? "the page holds" : wrong + " things on the page do not hold");
        if (wrong != 0) {
            System.exit(1);
        }
    }

    private static void expect(boolean good, String what) {
        if (!good) {
            wrong++;
            System.out.println(what);
        }
    }

    private static void callsAreTold(String page) {
        for (Method method : NoTwoTogether.class.getDeclaredMethods()) {
            if (Modifier.isPublic(method.getModifiers())) {
                expect(page.contains("`" + method.getName() + "("), "README.md does not tell what " + method.getName() + " is for");
            }
        }
    }

    /** Each line of a text in the tables is one that the class takes. */
    private static void textsAreTold(String page) {
        Matcher lines = Pattern.compile("`((go|change|side|any|shape) [^`]*;)`").matcher(page);
        int many = 0;
        while (lines.find()) {
            int k = lines.group(2).equals("go") ? 0 : lines.group(2).equals("change") ? 1 : 3;
            expect(Edge.tell(new NoTwoTogether(), k, lines.group(1)) == 1, "no line: " + lines.group(1));
            many++;
        }
        expect(many == 5, many + " lines of texts are shown");
    }

    private static void testsAreTold(String page) throws Exception {
        expect(page.contains("bash .ci/run"), "README.md does not tell how to run the tests");
        try (var files = Files.list(Path.of("src/test/java"))) {
            files.map(file -> file.getFileName().toString().replace(".java", ""))
                .forEach(name -> expect(page.contains("`" + name + "`"), "README.md does not tell what " + name + " is"));
        }
    }

    private static void examplesRun(String page) throws Exception {
        List<String> blocks = new ArrayList<>();
        Matcher found = BLOCK.matcher(page);
        while (found.find()) {
            blocks.add(found.group(1));
        }
        expect(blocks.size() == 2, blocks.size() + " examples");
        if (blocks.size() == 2) {
            int answers = run(program(blocks.get(0), blocks.get(1)));
            expect(answers >= 30, answers + " answers are shown");
        }
    }

    private static String program(String helper, String example) {
        StringBuilder code = new StringBuilder("public final class ReadmeExample {\n" + helper);
        code.append("static int answers = 0;\nstatic int wrong = 0;\n");
        code.append("static void due(String call, Object got, String want) {\nanswers++;\n");
        code.append("if (!String.valueOf(got).equals(want)) { wrong++; System.out.println(call + \" answered \" + got + \", README.md says \" + want); }\n}\n");
        code.append("public static int[] run() {\n");
        for (String line : example.split("\n")) {
            Matcher call = ANSWERED.matcher(line);
            if (call.matches()) {
                String words = call.group(1).replace("\"", "\\\"");
                code.append("due(\"").append(words).append("\", ").append(call.group(1)).append(", \"").append(call.group(2)).append("\");\n");
            } else {
                expect(line.startsWith("NoTwoTogether bridge = new NoTwoTogether();"), "no answer beside: " + line);
                code.append(line).append('\n');
            }
        }
        return code.append("return new int[] {answers, wrong};\n}\n}\n").toString();
    }

    private static int run(String program) throws Exception {
        Path place = Files.createTempDirectory("readme");
        Path source = place.resolve("ReadmeExample.java");
        try {
            Files.writeString(source, program);
            int code = ToolProvider.getSystemJavaCompiler().run(null, null, null, "-encoding", "UTF-8", "-d", place.toString(),
                "-cp", System.getProperty("java.class.path"), source.toString());
            expect(code == 0, "the examples can't be compiled");
            if (code != 0) {
                return 0;
            }
            try (URLClassLoader loader = new URLClassLoader(new URL[] {place.toUri().toURL()}, ReadmeTests.class.getClassLoader())) {
                int[] told = (int[]) loader.loadClass("ReadmeExample").getMethod("run").invoke(null);
                wrong += told[1];
                return told[0];
            }
        } finally {
            Files.deleteIfExists(place.resolve("ReadmeExample.class"));
            Files.deleteIfExists(source);
            Files.deleteIfExists(place);
        }
    }
}
