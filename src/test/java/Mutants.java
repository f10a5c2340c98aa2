import java.io.ByteArrayOutputStream;
import java.io.OutputStream;
import java.io.PrintStream;
import java.net.URI;
import java.nio.file.Files;
import java.nio.file.Path;
import java.util.ArrayList;
import java.util.HashMap;
import java.util.List;
import java.util.Map;
import java.util.Set;
import java.util.TreeMap;
import java.util.TreeSet;
import java.util.concurrent.ExecutorService;
import java.util.concurrent.Executors;
import java.util.concurrent.Future;
import java.util.concurrent.TimeUnit;
import java.util.regex.Matcher;
import java.util.regex.Pattern;
import javax.tools.FileObject;
import javax.tools.ForwardingJavaFileManager;
import javax.tools.JavaCompiler;
import javax.tools.JavaFileManager;
import javax.tools.JavaFileObject;
import javax.tools.SimpleJavaFileObject;
import javax.tools.StandardJavaFileManager;
import javax.tools.ToolProvider;

/**
 * A tool to be run by hand, no test: it breaks the class in one place at a time and tells which breaks no test of
 * edges sees, and which sentences no break was seen by. README.md says how it is run.
 */
public final class Mutants {
    private static final String[] TESTS = {"EdgesOfMatrixTest", "EdgesOfPlacingTest", "EdgesOfQuantumTest",
        "EdgesOfChangesTest", "EdgesOfPromisesTest"};
    private static final int SECONDS = 20;
    private static final String[][] SWAPS = {{" < ", " <= "}, {" <= ", " < "}, {" > ", " >= "}, {" >= ", " > "},
        {" == ", " != "}, {" != ", " == "}, {" && ", " || "}, {" || ", " && "}, {" + ", " - "}, {" - ", " + "},
        {" += ", " -= "}, {" -= ", " += "}, {" * ", " + "}, {"Math.max(", "Math.min("}, {"Math.min(", "Math.max("},
        {"true", "false"}, {"false", "true"}, {"++;", "--;"}, {"--;", "++;"}, {" |= ", " = "}, {" &= ", " = "},
        {" & ~", " & "}, {" >>> ", " << "}, {"if (", "if (true || "}, {"if (", "if (false && "}};
    private static final Pattern NUMBER = Pattern.compile("(?<![\\w.])\\d+(?!\\w)");

    private record Mutant(int line, String before, String after) {
    }

    private record Seen(Mutant mutant, Set<String> by, String how) {
    }

    private static Map<String, byte[]> testClasses;
    private static String[] lines;

    public static void main(String[] args) throws Exception {
        Path root = Path.of(args.length > 0 ? args[0] : ".");
        lines = Files.readString(root.resolve("src/main/java/GangMatrix.java")).split("\n", -1);
        Map<String, String> sources = new HashMap<>();
        sources.put("GangMatrix", String.join("\n", lines));
        sources.put("Edges", Files.readString(root.resolve("src/test/java/Edges.java")));
        for (String t : TESTS) sources.put(t, Files.readString(root.resolve("src/test/java/" + t + ".java")));
        testClasses = compile(sources, null);
        testClasses.keySet().removeIf(name -> name.equals("GangMatrix") || name.startsWith("GangMatrix$"));
        PrintStream out = System.out;
        System.setOut(new PrintStream(OutputStream.nullOutputStream()));
        List<Seen> seen = tryAll(mutants(), out);
        report(seen, out);
        System.exit(0);
    }

    private static List<Mutant> mutants() {
        List<Mutant> all = new ArrayList<>();
        boolean comment = false;
        for (int i = 0; i < lines.length; i++) {
            String line = lines[i];
            comment = comment || line.trim().startsWith("/*");
            if (!comment && !line.contains("static final") && !line.trim().startsWith("//")) {
                mutate(all, i, line);
            }
            comment = comment && !line.contains("*/");
        }
        return all;
    }

    private static void mutate(List<Mutant> all, int i, String line) {
        for (String[] swap : SWAPS) {
            for (int at = line.indexOf(swap[0]); at >= 0; at = line.indexOf(swap[0], at + 1)) {
                String rest = line.substring(at + swap[0].length());
                if (swap[1].startsWith("if (") && rest.endsWith(") {")) {
                    rest = (swap[1].contains("true") ? "" : "(") + rest.substring(0, rest.length() - 3)
                        + (swap[1].contains("true") ? "" : ")") + ") {";
                }
                all.add(new Mutant(i, line, line.substring(0, at) + swap[1] + rest));
            }
        }
        Matcher m = NUMBER.matcher(line);
        while (m.find()) {
            if (line.trim().startsWith("case")) continue;
            long v = Long.parseLong(m.group());
            for (long w : new long[] {v + 1, v - 1}) {
                if (w >= 0) all.add(new Mutant(i, line, line.substring(0, m.start()) + w + line.substring(m.end())));
            }
        }
        if (line.trim().matches("[\\w.\\[\\]()]+(\\(.*\\)|\\+\\+|--|.* [-+|&]?= .*);") && !line.contains("return")) {
            all.add(new Mutant(i, line, ";"));
        }
    }

    private static List<Seen> tryAll(List<Mutant> all, PrintStream out) throws Exception {
        ExecutorService many = Executors.newFixedThreadPool(Runtime.getRuntime().availableProcessors());
        List<Future<Seen>> futures = new ArrayList<>();
        for (Mutant m : all) futures.add(many.submit(() -> tryOne(m)));
        List<Seen> seen = new ArrayList<>();
        for (Future<Seen> f : futures) {
            seen.add(f.get());
            if (seen.size() % 200 == 0) out.println(seen.size() + " of " + all.size());
        }
        many.shutdown();
        return seen;
    }

    private static Seen tryOne(Mutant m) throws Exception {
        String[] changed = lines.clone();
        changed[m.line] = m.after;
        Map<String, byte[]> broken = compile(Map.of("GangMatrix", String.join("\n", changed)), null);
        if (broken == null) return new Seen(m, Set.of(), "does not compile");
        Map<String, byte[]> all = new HashMap<>(testClasses);
        all.putAll(broken);
        ClassLoader loader = new ClassLoader(ClassLoader.getPlatformClassLoader()) {
            @Override
            protected Class<?> findClass(String name) throws ClassNotFoundException {
                byte[] b = all.get(name);
                if (b == null) throw new ClassNotFoundException(name);
                return defineClass(name, b, 0, b.length);
            }
        };
        Set<String> by = new TreeSet<>();
        ExecutorService one = Executors.newSingleThreadExecutor(r -> {
            Thread t = new Thread(r);
            t.setDaemon(true);
            return t;
        });
        String how = "";
        for (String test : TESTS) {
            Future<?> run = one.submit(() -> {
                var method = loader.loadClass(test).getDeclaredMethod("runAll");
                method.setAccessible(true);
                return method.invoke(null);
            });
            try {
                run.get(SECONDS, TimeUnit.SECONDS);
            } catch (Exception e) {
                how = "throws or does not end";
                by.add("(" + how + ")");
                break;
            }
        }
        one.shutdownNow();
        var names = loader.loadClass("Edges").getDeclaredMethod("broken");
        names.setAccessible(true);
        for (Object s : new ArrayList<>((Set<?>) names.invoke(null))) by.add((String) s);
        return new Seen(m, by, how);
    }

    private static void report(List<Seen> seen, PrintStream out) {
        Map<String, Seen> sharpest = new TreeMap<>();
        int unseen = 0, compiled = 0;
        for (Seen s : seen) {
            if (s.how.equals("does not compile")) continue;
            compiled++;
            if (s.by.isEmpty()) {
                unseen++;
                out.println("not seen, line " + (s.mutant.line + 1) + ": " + s.mutant.before.trim()
                    + "\n                -> " + s.mutant.after.trim());
            }
            for (String sentence : s.by) {
                Seen best = sharpest.get(sentence);
                if (best == null || s.by.size() < best.by.size()) sharpest.put(sentence, s);
            }
        }
        out.println();
        for (Map.Entry<String, Seen> e : sharpest.entrySet()) {
            Seen s = e.getValue();
            out.println(s.by.size() + " see it: \"" + e.getKey() + "\" by line " + (s.mutant.line + 1) + ": "
                + s.mutant.before.trim() + " -> " + s.mutant.after.trim());
        }
        out.println(compiled + " breaks, " + unseen + " not seen, " + sharpest.size() + " sentences see one");
    }

    /** Classes by their names, or null if the sources do not compile. */
    private static Map<String, byte[]> compile(Map<String, String> sources, String none) throws Exception {
        JavaCompiler javac = ToolProvider.getSystemJavaCompiler();
        StandardJavaFileManager standard = javac.getStandardFileManager(d -> { }, null, null);
        Map<String, ByteArrayOutputStream> made = new HashMap<>();
        JavaFileManager files = new ForwardingJavaFileManager<>(standard) {
            @Override
            public JavaFileObject getJavaFileForOutput(Location l, String name, JavaFileObject.Kind k, FileObject f) {
                return new SimpleJavaFileObject(URI.create("mem:///" + name.replace('.', '/') + ".class"), k) {
                    @Override
                    public OutputStream openOutputStream() {
                        ByteArrayOutputStream bytes = new ByteArrayOutputStream();
                        made.put(name, bytes);
                        return bytes;
                    }
                };
            }
        };
        List<JavaFileObject> units = new ArrayList<>();
        for (Map.Entry<String, String> e : sources.entrySet()) {
            units.add(new SimpleJavaFileObject(URI.create("mem:///" + e.getKey() + ".java"), JavaFileObject.Kind.SOURCE) {
                @Override
                public CharSequence getCharContent(boolean ignore) {
                    return e.getValue();
                }
            });
        }
        boolean done = javac.getTask(OutputStreamless.WRITER, files, d -> { }, List.of("-nowarn"), null, units).call();
        standard.close();
        if (!done) return null;
        Map<String, byte[]> classes = new HashMap<>();
        for (Map.Entry<String, ByteArrayOutputStream> e : made.entrySet()) classes.put(e.getKey(), e.getValue().toByteArray());
        return classes;
    }

    private static final class OutputStreamless {
        static final java.io.Writer WRITER = java.io.Writer.nullWriter();
    }
}
