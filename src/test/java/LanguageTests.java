import java.io.PrintWriter;
import java.io.StringWriter;
import java.lang.management.ManagementFactory;
import java.lang.reflect.Field;
import java.lang.reflect.Modifier;
import java.nio.file.Files;
import java.nio.file.Path;
import java.util.ArrayList;
import java.util.HashMap;
import java.util.HashSet;
import java.util.List;
import java.util.Map;
import java.util.Set;
import java.util.regex.Matcher;
import java.util.regex.Pattern;
import java.util.spi.ToolProvider;

/** What of LANGUAGE.md can be read off the source, and that no call makes an object. */
public final class LanguageTests {
    private static final String SOURCE = "src/main/java/NoTwoTogether.java";
    private static final Set<String> FACE = Set.of("state", "row", "place", "sort", "set", "feed", "end", "text", "fault", "of", "see",
        "fails", "days", "chance", "left", "ahead", "hold", "which", "where", "stocks", "thought", "often", "nine", "image", "look");
    private static int wrong = 0;

    public static void main(String[] args) throws Exception {
        String whole = Files.readString(Path.of(SOURCE), java.nio.charset.StandardCharsets.ISO_8859_1);
        String code = whole.replaceAll("(?s)/\\*.*?\\*/", "").replaceAll("//[^\n]*", "");
        String bare = code.replaceAll("\"[^\"]*\"", "\"\"").replaceAll("'[^']*'", "' '");
        signs(whole);
        words(bare);
        library(bare);
        statics(bare);
        methods(bare);
        fields();
        depths();
        rooms();
        System.out.println(wrong == 0 ? "the rules that are looked at are kept" : wrong + " rules are broken");
        if (wrong != 0) {
            System.exit(1);
        }
    }

    private static void expect(boolean good, String what) {
        if (!good) {
            wrong++;
            System.out.println(what);
        }
    }

    private static void signs(String whole) {
        expect(whole.chars().allMatch(c -> c == 10 || c >= 32 && c < 127), "rule 4: a sign that is not plain");
        expect(!whole.startsWith("package"), "a package line");
    }

    private static void words(String bare) {
        String[] never = {"\\bthrow\\b", "\\bthrows\\b", "\\btry\\b", "\\bcatch\\b", "\\bsynchronized\\b", "\\bassert\\b", "->", "::", "\\bvar\\b",
            "\\bequals\\b", "\\bhashCode\\b", "\\btoString\\b", "Exact\\b", "\\bprotected\\b", "\\byield\\b", "\\bvolatile\\b", "\\btransient\\b",
            "\\bnative\\b", "\\bdouble\\b", "\\bfloat\\b", "static\\s*\\{", "@", "\"\"\\s*\\+", "\\+\\s*\"\""};
        for (String word : never) {
            expect(!Pattern.compile(word).matcher(bare).find(), "found " + word);
        }
    }

    private static void library(String bare) {
        Matcher imports = Pattern.compile("import ([^;]+);").matcher(bare);
        while (imports.find()) {
            expect(imports.group(1).equals("java.util.Arrays"), "rule 4: import " + imports.group(1));
        }
        Matcher calls = Pattern.compile("\\b(Arrays|Integer|Long|Math|System)\\.(\\w+)").matcher(bare);
        Set<String> fine = Set.of("Arrays.fill", "Arrays.copyOf", "Arrays.copyOfRange", "Integer.bitCount", "Long.bitCount", "Math.max",
            "Math.min", "Math.abs", "System.arraycopy");
        while (calls.find()) {
            expect(fine.contains(calls.group()), "rule 4: " + calls.group());
        }
    }

    private static void statics(String bare) {
        for (String line : bare.split("\n")) {
            if (line.contains("static") && line.trim().endsWith(";")) {
                expect(line.contains("static final"), "rule 5: " + line.trim());
            }
        }
        Matcher inside = Pattern.compile("\\bclass (\\w+)").matcher(bare);
        Set<String> classes = new HashSet<>();
        while (inside.find()) {
            classes.add(inside.group(1));
            if (!inside.group(1).equals("NoTwoTogether")) {
                expect(bare.contains("private static final class " + inside.group(1)), "rule 2: class " + inside.group(1));
            }
        }
        expect(classes.size() <= 12, "rule 11: " + classes.size() + " classes");
    }

    private static void methods(String bare) {
        Matcher heads = Pattern.compile("(?m)^( +)((?:public |private |static |final )*)(\\w+(?:\\[\\])?) (\\w+)\\(([^)]*)\\) \\{$").matcher(bare);
        List<String> names = new ArrayList<>();
        while (heads.find()) {
            if (heads.group(3).equals("else") || heads.group(3).equals("new")) {
                continue;
            }
            names.add(heads.group(4));
            boolean isPublic = heads.group(2).contains("public");
            expect(isPublic == FACE.contains(heads.group(4)), "rule 1: " + heads.group(4));
            expect(!isPublic || heads.group(1).length() == 4, "rule 1: public " + heads.group(4) + " inside");
            expect(heads.group(5).split(",").length <= 7, "rule 11: parameters of " + heads.group(4));
            int close = bare.indexOf("\n" + heads.group(1) + "}", heads.end());
            long lines = bare.substring(heads.start(), close).lines().count();
            expect(lines <= 60, "rule 11: " + heads.group(4) + " has " + lines + " lines");
        }
        expect(names.containsAll(FACE), "a method of the face is not there");
        expect(names.size() > 60, "the methods were not found");
    }

    private static List<Class<?>> classes() {
        List<Class<?>> all = new ArrayList<>(List.of(NoTwoTogether.class.getDeclaredClasses()));
        all.add(NoTwoTogether.class);
        return all;
    }

    private static void fields() {
        for (Class<?> one : classes()) {
            int many = 0;
            for (Field field : one.getDeclaredFields()) {
                boolean isStatic = Modifier.isStatic(field.getModifiers());
                many += isStatic ? 0 : 1;
                expect(!isStatic || Modifier.isFinal(field.getModifiers()), "rule 5: " + field);
                expect(one != NoTwoTogether.class || Modifier.isPrivate(field.getModifiers()) || field.getName().equals("NONE"), "rule 1: " + field);
            }
            expect(many <= 20, "rule 11: " + one.getName() + " has " + many + " fields");
        }
    }

    /** Methods that call one another count as one level; these are the Parser's alone, which count what is open. */
    private static void depths() {
        Map<String, Set<String>> calls = new HashMap<>();
        for (Class<?> one : classes()) {
            calls(one.getName(), calls);
        }
        Map<String, Set<String>> reached = new HashMap<>();
        calls.keySet().forEach(method -> reach(method, calls, reached.computeIfAbsent(method, m -> new HashSet<>())));
        Set<String> again = new HashSet<>(calls.keySet());
        again.removeIf(method -> !reached.get(method).contains(method));
        expect(again.equals(Set.of("NoTwoTogether$Parser.readOr", "NoTwoTogether$Parser.readAnd", "NoTwoTogether$Parser.readClause")),
            "rule 8: these call one another: " + again);
        Map<String, Integer> depths = new HashMap<>();
        for (String method : calls.keySet()) {
            expect(depth(method, calls, reached, depths) <= 8, "rule 11: calls go " + depths.get(method) + " deep from " + method);
        }
        expect(calls.size() > 100 && depths.containsValue(8), "the calls were not found");
    }

    private static void calls(String name, Map<String, Set<String>> calls) {
        StringWriter told = new StringWriter();
        String home = System.getProperty("java.class.path");
        ToolProvider.findFirst("javap").orElseThrow().run(new PrintWriter(told), new PrintWriter(told), "-p", "-c", "-cp", home, name);
        Pattern head = Pattern.compile("^  (?:[\\w\\[\\]$.]+ )*([\\w$.]+)\\(.*\\);$");
        Pattern call = Pattern.compile("// Method (?:(NoTwoTogether[\\w$]*)\\.)?(?:\"<init>\"|(\\w+)):");
        Set<String> made = new HashSet<>();
        for (String line : told.toString().split("\n")) {
            Matcher begins = head.matcher(line);
            Matcher calling = call.matcher(line);
            if (begins.find()) {
                made = calls.computeIfAbsent(name + "." + (begins.group(1).equals(name) ? "new" : begins.group(1)), m -> new HashSet<>());
            } else if (line.contains("invoke") && calling.find()) {
                made.add((calling.group(1) == null ? name : calling.group(1)) + "." + (calling.group(2) == null ? "new" : calling.group(2)));
            }
        }
    }

    private static void reach(String from, Map<String, Set<String>> calls, Set<String> reached) {
        for (String to : calls.getOrDefault(from, Set.of())) {
            if (reached.add(to)) {
                reach(to, calls, reached);
            }
        }
    }

    private static int depth(String method, Map<String, Set<String>> calls, Map<String, Set<String>> reached, Map<String, Integer> depths) {
        Integer known = depths.get(method);
        if (known != null) {
            return known;
        }
        Set<String> level = new HashSet<>(reached.get(method));
        level.removeIf(other -> !reached.getOrDefault(other, Set.of()).contains(method));
        level.add(method);
        int deepest = 0;
        for (String one : level) {
            for (String to : calls.get(one)) {
                if (!level.contains(to) && calls.containsKey(to)) {
                    deepest = Math.max(deepest, depth(to, calls, reached, depths));
                }
            }
        }
        depths.put(method, deepest + 1);
        return deepest + 1;
    }

    /** A run's room holds 600000 objects and 7.3 million fields and elements: the constructor alone may take of it. */
    private static void rooms() {
        com.sun.management.ThreadMXBean beans = (com.sun.management.ThreadMXBean) ManagementFactory.getThreadMXBean();
        everything(new NoTwoTogether());
        long before = beans.getCurrentThreadAllocatedBytes();
        NoTwoTogether x = new NoTwoTogether();
        long made = beans.getCurrentThreadAllocatedBytes();
        everything(x);
        long after = beans.getCurrentThreadAllocatedBytes();
        expect(made - before < 400000, "the constructor takes " + (made - before) + " bytes");
        expect(after - made < 2000, "the calls take " + (after - made) + " bytes");
    }

    private static long everything(NoTwoTogether x) {
        long sum = 0;
        x.row(7);
        x.feed(0x676F2037, 0x3B676F20, 0x383B676F, 0x20393B20, 0x0A202020);
        sum += x.text(0);
        x.feed(0x73696465, 0x20323B20, 0x20202020, 0x20202020, 0x0A202020);
        sum += x.text(3) + x.text(1) + x.text(2) + x.fault(0);
        for (int i = 0; i < 7; i++) {
            sum += x.place(i, i % 6, i, i == 3) ? 1 : 0;
            sum += x.see(i) ? 1 : 0;
            sum += x.of(i, 6) + x.where(i) + x.which(i) + x.hold(i) + x.left(i) + x.ahead(1, i);
        }
        x.image(true);
        sum += x.days(9) + x.chance(0) + x.chance(1) + x.ahead(0, 0) + x.stocks(5, 0) + x.thought(1, 2, 9, 0) + x.often(9, 0) + x.often(9, 1);
        sum += x.nine(9) + x.fails(3, 0) + x.look(6) + x.state(3);
        x.image(false);
        return sum;
    }
}
