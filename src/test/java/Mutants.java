import java.io.ByteArrayOutputStream;
import java.io.OutputStream;
import java.io.PrintStream;
import java.io.Writer;
import java.net.URI;
import java.nio.file.Files;
import java.nio.file.Path;
import java.util.ArrayList;
import java.util.HashMap;
import java.util.List;
import java.util.Map;
import java.util.Set;
import java.util.TreeSet;
import java.util.concurrent.ExecutionException;
import java.util.concurrent.ExecutorService;
import java.util.concurrent.Executors;
import java.util.concurrent.Future;
import java.util.concurrent.TimeUnit;
import java.util.concurrent.TimeoutException;
import java.util.regex.Matcher;
import java.util.regex.Pattern;
import javax.tools.FileObject;
import javax.tools.ForwardingJavaFileManager;
import javax.tools.JavaCompiler;
import javax.tools.JavaFileManager;
import javax.tools.JavaFileObject;
import javax.tools.SimpleJavaFileObject;
import javax.tools.StandardJavaFileManager;
import javax.tools.ToolProvider;

/**
 * A tool to be run by hand, no test: it breaks the class and looks which tests of edges see it. First the breaks of
 * breaks.txt, each of which the test of its sentence must see; then (with "places") one place of the class at a time:
 * it tells which of these breaks nobody sees. README.md says how it is run.
 */
public final class Mutants {
    private static final String[] TESTS = {"EdgesOfMatrixTest", "EdgesOfPlacingTest", "EdgesOfQuantumTest",
        "EdgesOfChangesTest", "EdgesOfPromisesTest"};
    private static final int SECONDS = 20;
    private static final String[][] SWAPS = {{" < ", " <= "}, {" <= ", " < "}, {" > ", " >= "}, {" >= ", " > "},
        {" == ", " != "}, {" != ", " == "}, {" && ", " || "}, {" || ", " && "}, {" + ", " - "}, {" - ", " + "},
        {" += ", " -= "}, {" -= ", " += "}, {" * ", " + "}, {"Math.max(", "Math.min("}, {"Math.min(", "Math.max("},
        {"true", "false"}, {"false", "true"}, {"++;", "--;"}, {"--;", "++;"}, {" |= ", " = "}, {" &= ", " = "},
        {" & ~", " & "}, {" >>> ", " << "}, {"if (", "if (true || "}, {"if (", "if (false && "}};
    private static final Pattern NUMBER = Pattern.compile("(?<![\\w.])\\d+(?!\\w)");

    /** A broken class; the sentence that must see it, if it is for one. */
    private record Mutant(String sentence, String told, String source) {
    }

    private record Seen(Mutant mutant, Set<String> by, boolean compiled) {
    }

    private static final Set<String> sentences = new TreeSet<>();
    private static Map<String, byte[]> testClasses;
    private static String whole;
    private static String[] lines;

    public static void main(String[] args) throws Exception {
        Path root = Path.of(args.length > 0 ? args[0] : ".");
        whole = Files.readString(root.resolve("src/main/java/GangMatrix.java"));
        lines = whole.split("\n", -1);
        Map<String, String> sources = new HashMap<>();
        sources.put("GangMatrix", whole);
        sources.put("Edges", Files.readString(root.resolve("src/test/java/Edges.java")));
        for (String t : TESTS) sources.put(t, Files.readString(root.resolve("src/test/java/" + t + ".java")));
        testClasses = compile(sources);
        testClasses.keySet().removeIf(name -> name.equals("GangMatrix") || name.startsWith("GangMatrix$"));
        PrintStream out = System.out;
        System.setOut(new PrintStream(OutputStream.nullOutputStream()));
        out.println("unbroken: " + tryOne(new Mutant("", "", whole)).by.size() + " sentences do not hold");
        reportBreaks(tryAll(breaks(Files.readAllLines(root.resolve("src/test/breaks.txt")), out), out), out);
        if (args.length > 1 && args[1].equals("places")) reportPlaces(tryAll(mutants(), out), out);
        System.exit(0);
    }

    private static List<Mutant> breaks(List<String> text, PrintStream out) {
        List<Mutant> all = new ArrayList<>();
        String sentence = null, source = null, old = null, told = "";
        for (String line : text) {
            if (line.startsWith("@ ")) {
                sentence = line.substring(2);
                source = whole;
                told = "";
            } else if (line.startsWith("- ") && source != null) {
                old = line.substring(2);
            } else if (line.startsWith("+ ") && source != null) {
                source = broken(source, old, line.substring(2), out);
                told += old + " -> " + line.substring(2) + " ";
            } else if (line.isEmpty() && source != null) {
                all.add(new Mutant(sentence, told, source));
                source = null;
            }
        }
        if (source != null) all.add(new Mutant(sentence, told, source));
        return all;
    }

    private static String broken(String source, String old, String by, PrintStream out) {
        int cut = old.indexOf(" >> ");
        String behind = cut < 0 ? old : old.substring(0, cut);
        String what = cut < 0 ? old : old.substring(cut + 4);
        int from = source.indexOf(behind);
        int at = from < 0 ? -1 : source.indexOf(what, cut < 0 ? from : from + behind.length());
        if (at < 0 || source.indexOf(behind, from + 1) >= 0) {
            out.println("stands not there just once: " + old);
            return source;
        }
        return source.substring(0, at) + by + source.substring(at + what.length());
    }

    private static List<Mutant> mutants() {
        List<Mutant> all = new ArrayList<>();
        boolean comment = false;
        for (int i = 0; i < lines.length; i++) {
            String line = lines[i];
            comment = comment || line.trim().startsWith("/*");
            if (!comment && !line.contains("static final") && !line.trim().startsWith("//")) {
                mutate(all, i, line);
            }
            comment = comment && !line.contains("*/");
        }
        return all;
    }

    private static void mutate(List<Mutant> all, int i, String line) {
        for (String[] swap : SWAPS) {
            for (int at = line.indexOf(swap[0]); at >= 0; at = line.indexOf(swap[0], at + 1)) {
                String rest = line.substring(at + swap[0].length());
                if (swap[1].startsWith("if (") && rest.endsWith(") {")) {
                    rest = (swap[1].contains("true") ? "" : "(") + rest.substring(0, rest.length() - 3)
                        + (swap[1].contains("true") ? "" : ")") + ") {";
                }
                place(all, i, line.substring(0, at) + swap[1] + rest);
            }
        }
        Matcher m = NUMBER.matcher(line);
        while (m.find()) {
            if (line.trim().startsWith("case")) continue;
            long v = Long.parseLong(m.group());
            for (long w : new long[] {v + 1, v - 1}) {
                if (w >= 0) place(all, i, line.substring(0, m.start()) + w + line.substring(m.end()));
            }
        }
        if (line.trim().matches("[\\w.\\[\\]()]+(\\(.*\\)|\\+\\+|--|.* [-+|&]?= .*);") && !line.contains("return")) {
            place(all, i, ";");
        }
    }

    private static void place(List<Mutant> all, int i, String by) {
        String[] changed = lines.clone();
        changed[i] = by;
        String told = "line " + (i + 1) + ": " + lines[i].trim() + " -> " + by.trim();
        all.add(new Mutant("", told, String.join("\n", changed)));
    }

    private static List<Seen> tryAll(List<Mutant> all, PrintStream out) throws Exception {
        ExecutorService many = Executors.newFixedThreadPool(Runtime.getRuntime().availableProcessors());
        List<Future<Seen>> futures = new ArrayList<>();
        for (Mutant m : all) futures.add(many.submit(() -> tryOne(m)));
        List<Seen> seen = new ArrayList<>();
        for (Future<Seen> f : futures) {
            seen.add(f.get());
            if (seen.size() % 200 == 0) out.println(seen.size() + " of " + all.size());
        }
        many.shutdown();
        return seen;
    }

    private static Seen tryOne(Mutant m) throws Exception {
        Map<String, byte[]> broken = compile(Map.of("GangMatrix", m.source));
        if (broken == null) return new Seen(m, Set.of(), false);
        Map<String, byte[]> all = new HashMap<>(testClasses);
        all.putAll(broken);
        ClassLoader loader = new ClassLoader(ClassLoader.getPlatformClassLoader()) {
            @Override
            protected Class<?> findClass(String name) throws ClassNotFoundException {
                byte[] b = all.get(name);
                if (b == null) throw new ClassNotFoundException(name);
                return defineClass(name, b, 0, b.length);
            }
        };
        ExecutorService one = Executors.newSingleThreadExecutor(r -> {
            Thread t = new Thread(r);
            t.setDaemon(true);
            return t;
        });
        for (String test : TESTS) {
            Future<?> run = one.submit(() -> call(loader, test, "runAll"));
            try {
                run.get(SECONDS, TimeUnit.SECONDS);
            } catch (TimeoutException e) {
                call(loader, "Edges", "threw");
                break;
            } catch (ExecutionException e) {
                call(loader, "Edges", "threw");
            }
        }
        one.shutdownNow();
        Set<String> by = new TreeSet<>();
        for (Object s : new ArrayList<>((Set<?>) call(loader, "Edges", "broken"))) by.add((String) s);
        if (m.source.equals(whole)) {
            for (Object s : (Set<?>) call(loader, "Edges", "sentences")) sentences.add((String) s);
        }
        return new Seen(m, by, true);
    }

    private static Object call(ClassLoader loader, String name, String method) throws Exception {
        var m = loader.loadClass(name).getDeclaredMethod(method);
        m.setAccessible(true);
        return m.invoke(null);
    }

    private static void reportBreaks(List<Seen> seen, PrintStream out) {
        int missed = 0;
        Set<String> without = new TreeSet<>(sentences);
        for (Seen s : seen) {
            String named = s.mutant.sentence;
            for (String t : sentences) if (!sentences.contains(named) && t.startsWith(named)) named = t;
            without.remove(named);
            if (s.by.contains(named)) continue;
            missed++;
            out.println((s.compiled ? "its test does not see: \"" : "does not compile: \"") + s.mutant.sentence + "\" broken by "
                + s.mutant.told + "; seen by " + s.by);
        }
        for (String t : without) out.println("no break for \"" + t + "\"");
        out.println(seen.size() + " breaks of sentences, " + missed + " not seen by the sentence's test");
    }

    private static void reportPlaces(List<Seen> seen, PrintStream out) {
        int unseen = 0, compiled = 0;
        for (Seen s : seen) {
            if (!s.compiled) continue;
            compiled++;
            if (s.by.isEmpty()) {
                unseen++;
                out.println("not seen, " + s.mutant.told);
            }
        }
        out.println(compiled + " breaks by places, " + unseen + " not seen");
    }

    /** Classes by their names, or null if the sources do not compile. */
    private static Map<String, byte[]> compile(Map<String, String> sources) throws Exception {
        JavaCompiler javac = ToolProvider.getSystemJavaCompiler();
        StandardJavaFileManager standard = javac.getStandardFileManager(d -> { }, null, null);
        Map<String, ByteArrayOutputStream> made = new HashMap<>();
        JavaFileManager files = new ForwardingJavaFileManager<>(standard) {
            @Override
            public JavaFileObject getJavaFileForOutput(Location l, String name, JavaFileObject.Kind k, FileObject f) {
                return new SimpleJavaFileObject(URI.create("mem:///" + name.replace('.', '/') + ".class"), k) {
                    @Override
                    public OutputStream openOutputStream() {
                        ByteArrayOutputStream bytes = new ByteArrayOutputStream();
                        made.put(name, bytes);
                        return bytes;
                    }
                };
            }
        };
        List<JavaFileObject> units = new ArrayList<>();
        for (Map.Entry<String, String> e : sources.entrySet()) {
            units.add(new SimpleJavaFileObject(URI.create("mem:///" + e.getKey() + ".java"), JavaFileObject.Kind.SOURCE) {
                @Override
                public CharSequence getCharContent(boolean ignore) {
                    return e.getValue();
                }
            });
        }
        boolean done = javac.getTask(Writer.nullWriter(), files, d -> { }, List.of("-nowarn"), null, units).call();
        standard.close();
        if (!done) return null;
        Map<String, byte[]> classes = new HashMap<>();
        for (Map.Entry<String, ByteArrayOutputStream> e : made.entrySet()) classes.put(e.getKey(), e.getValue().toByteArray());
        return classes;
    }
}
