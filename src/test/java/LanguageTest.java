import java.io.PrintWriter;
import java.io.StringWriter;
import java.lang.management.ManagementFactory;
import java.lang.reflect.Constructor;
import java.lang.reflect.Field;
import java.lang.reflect.Method;
import java.lang.reflect.Modifier;
import java.nio.file.Files;
import java.nio.file.Path;
import java.util.ArrayList;
import java.util.List;
import java.util.Map;
import java.util.Set;
import java.util.TreeMap;
import java.util.TreeSet;
import java.util.regex.Matcher;
import java.util.regex.Pattern;
import java.util.spi.ToolProvider;

/** What LANGUAGE.md asks and a program can see: the face, words that are not used, room that calls take. */
public final class LanguageTest {
    private static final String[] FACE = {
        "boolean set(int,int)", "boolean share(int,int)", "int job(int,int,int,int)", "int later(int,int,int,int)",
        "int kill(int)", "int quantum(int)", "boolean down(int)", "boolean up(int)", "int unify()", "int repack()",
        "boolean move(int,int)", "boolean migrate(int)", "int weigh(int,int)", "int pack(int)", "boolean relay()",
        "boolean urge(int)", "int urged(int,int)", "int thin(int)", "int where(int,int)", "int free(int,int,int)",
        "int cell(int,int)", "int load(int)", "int of(int,int)", "int user(int,int)", "int slot(int,int)",
        "int queue(int)", "int lends(int,int)", "int would(int,int)", "int when(int)", "int log(int,int)",
        "int went(int,int)", "int count(int)", "boolean image(boolean)", "int look(int)"};
    private static int wrong;

    public static void main(String[] args) throws Exception {
        face();
        namesAndFields();
        source(Path.of(args.length > 0 ? args[0] : ".", "src/main/java/GangMatrix.java"));
        depth();
        room();
        oddArguments();
        System.out.println("language: " + wrong + " wrong");
        if (wrong != 0) System.exit(1);
    }

    private static void check(boolean holds, String what) {
        if (!holds) {
            wrong++;
            System.out.println("language: " + what);
        }
    }

    private static void face() {
        Set<String> got = new TreeSet<>();
        for (Method m : GangMatrix.class.getDeclaredMethods()) {
            if (Modifier.isPrivate(m.getModifiers())) continue;
            List<String> types = new ArrayList<>();
            for (Class<?> c : m.getParameterTypes()) types.add(c.getName());
            got.add(m.getReturnType().getName() + " " + m.getName() + "(" + String.join(",", types) + ")");
            check(m.getModifiers() == Modifier.PUBLIC, m + " is public alone");
        }
        check(got.equals(new TreeSet<>(List.of(FACE))), "the methods are those of the document: " + got);
        for (Field f : GangMatrix.class.getDeclaredFields())
            check(Modifier.isPrivate(f.getModifiers()) || f.getName().equals("NONE"), f + " is private");
        Constructor<?>[] made = GangMatrix.class.getDeclaredConstructors();
        check(made.length == 1 && made[0].getParameterCount() == 0, "one constructor");
        check(Modifier.isFinal(GangMatrix.class.getModifiers()), "final");
    }

    private static void namesAndFields() {
        Set<String> open = new TreeSet<>();
        for (String f : FACE) open.add(f.substring(f.indexOf(' ') + 1, f.indexOf('(')));
        List<Class<?>> all = new ArrayList<>(List.of(GangMatrix.class.getDeclaredClasses()));
        check(all.size() < 12, "at most twelve classes");
        for (Class<?> c : all) {
            check(Modifier.isStatic(c.getModifiers()), c + " is static");
            check(!Modifier.isPublic(c.getModifiers()), c + " is not public");
            for (Method m : c.getDeclaredMethods()) check(!open.contains(m.getName()), m + " has a public one's name");
        }
        all.add(GangMatrix.class);
        for (Class<?> c : all) {
            int fields = 0;
            for (Field f : c.getDeclaredFields()) {
                if (!Modifier.isStatic(f.getModifiers())) fields++;
                else check(Modifier.isFinal(f.getModifiers()), f + " is final");
            }
            check(fields <= 20, c + " has at most twenty fields");
            for (Method m : c.getDeclaredMethods()) check(m.getParameterCount() <= 7, m + " has at most seven parameters");
        }
    }

    private static void source(Path file) throws Exception {
        String text = Files.readString(file);
        for (int i = 0; i < text.length(); i++)
            if (text.charAt(i) > 127 || text.charAt(i) == '\t') check(false, "a sign that is not plain at " + i);
        String code = text.replaceAll("(?s)/\\*.*?\\*/", " ").replaceAll("//[^\n]*", " ");
        String words = "throw|throws|try|catch|finally|synchronized|assert|import|package|yield|var|native|volatile"
            + "|transient|strictfp|protected|System\\.out|Object|hashCode|toString|\\w+Exact";
        Matcher m = Pattern.compile("\\b(" + words + ")\\b|->|::").matcher(code);
        while (m.find()) check(false, "not used: " + m.group());
        m = Pattern.compile("\\b(System|Math|Integer|Long|Arrays)\\.(\\w+)").matcher(code);
        Set<String> library = Set.of("System.arraycopy", "Math.max", "Math.min", "Math.floorMod", "Integer.bitCount");
        while (m.find()) check(library.contains(m.group()), "library: " + m.group());
        int depth = 0, from = 0, at = 0;
        for (String line : code.split("\n")) {
            at++;
            int before = depth;
            for (char c : line.toCharArray()) depth += c == '{' ? 1 : c == '}' ? -1 : 0;
            if (line.matches(" {4,8}\\w.*\\) \\{") && depth > before) from = at;
            if (line.matches(" {4}( {4})?\\}") && from > 0) {
                check(at - from <= 60, "a method of " + (at - from) + " lines at " + from);
                from = 0;
            }
        }
    }

    /** Which method calls which, read from what javap prints: no chain of calls is over eight long. */
    private static void depth() throws Exception {
        Path home = Path.of(GangMatrix.class.getProtectionDomain().getCodeSource().getLocation().toURI());
        Pattern head = Pattern.compile("^  \\S.*?([\\w$]+)\\(.*\\);$");
        Pattern call = Pattern.compile("// (?:Interface)?Method (?:([\\w/$]+)\\.)?\"?([\\w<>]+)\"?:");
        Map<String, Set<String>> calls = new TreeMap<>();
        List<Class<?>> all = new ArrayList<>(List.of(GangMatrix.class.getDeclaredClasses()));
        all.add(GangMatrix.class);
        for (Class<?> c : all) {
            StringWriter text = new StringWriter();
            PrintWriter out = new PrintWriter(text);
            ToolProvider.findFirst("javap").get().run(out, out, "-p", "-c", home.resolve(c.getName() + ".class").toString());
            String from = "";
            for (String line : text.toString().split("\\R")) {
                Matcher m = head.matcher(line);
                if (m.find()) from = c.getName() + "." + (m.group(1).equals(c.getName()) ? "<init>" : m.group(1));
                m = call.matcher(line);
                if (!m.find()) continue;
                String owner = m.group(1) == null ? c.getName() : m.group(1);
                calls.computeIfAbsent(from, k -> new TreeSet<>()).add(owner + "." + m.group(2));
            }
        }
        check(calls.size() > 60, "javap told only " + calls.size() + " methods that call");
        int deepest = 0;
        for (String from : calls.keySet()) deepest = Math.max(deepest, deep(calls, from, 1));
        check(deepest <= 8, "calls go " + deepest + " deep");
        check(deepest > 3, "javap told of no deeper calls than " + deepest);
    }

    private static int deep(Map<String, Set<String>> calls, String from, int at) {
        int most = at;
        if (at < 20) for (String to : calls.getOrDefault(from, Set.of())) most = Math.max(most, deep(calls, to, at + 1));
        return most;
    }

    /** All calls of a run live in one room, so no call may make anything. */
    private static void room() {
        com.sun.management.ThreadMXBean bean =
            (com.sun.management.ThreadMXBean) ManagementFactory.getThreadMXBean();
        long id = Thread.currentThread().getId();
        busy(new GangMatrix());
        long start = bean.getThreadAllocatedBytes(id);
        GangMatrix x = new GangMatrix();
        long made = bean.getThreadAllocatedBytes(id);
        busy(x);
        long end = bean.getThreadAllocatedBytes(id);
        check(made - start < 65536, "a new object takes " + (made - start) + " bytes");
        check(end - made < 64, "the calls take " + (end - made) + " bytes");
    }

    private static void busy(GangMatrix x) {
        x.set(0, 32);
        x.set(1, 8);
        x.set(3, 1);
        x.set(4, 9);
        for (int n = 0; n < 50; n++) {
            x.set(2, n % 3);
            x.job(1 + n * 7 % 32, 5 + n, n % 6, n % 5 == 4 ? n - 1 : -1);
        }
        for (int n = 0; n < 8; n++) x.later(n, 3, 3, 3);
        x.image(true);
        for (int n = 0; n < 40; n++) {
            x.quantum(2);
            x.would(50, n % 5);
            x.when(n);
            x.move(n, 0);
            x.migrate(n);
            x.urge(n);
            x.urged(n, 3);
            x.relay();
            x.pack(2);
            x.thin(n % 3);
            x.weigh(n, 4);
            x.lends(0, 0);
            x.queue(3);
            x.look(n % 23);
            x.user(n % 6, 5);
        }
        x.down(3);
        x.unify();
        x.repack();
        x.kill(45);
        x.image(false);
    }

    /** No call throws, whatever it is given; one that does ends this test. */
    private static void oddArguments() {
        int[] odd = {Integer.MIN_VALUE, -1000000000, -61, -33, -9, -3, -2, -1, 0, 1, 2, 5, 7, 8, 9, 16, 31, 32, 33,
            59, 60, 61, 63, 64, 100, 1 << 20, 1 << 30, Integer.MAX_VALUE};
        GangMatrix empty = new GangMatrix();
        GangMatrix full = new GangMatrix();
        busy(full);
        for (GangMatrix x : new GangMatrix[] {empty, full}) {
            for (int a : odd) {
                x.thin(a); x.load(a); x.queue(a); x.when(a); x.count(a); x.look(a); x.pack(a); x.kill(a); x.quantum(a);
                x.down(a); x.up(a); x.migrate(a); x.urge(a);
                for (int b : odd) {
                    x.weigh(a, b); x.urged(a, b); x.where(a, b); x.cell(a, b); x.of(a, b); x.user(a, b); x.slot(a, b);
                    x.lends(a, b); x.log(a, b); x.went(a, b); x.would(a, b); x.move(a, b); x.share(a, b); x.set(a, b);
                    for (int c : odd) {
                        x.free(a, b, c);
                        x.job(a, b, c, a);
                        x.later(a, b, c, b);
                    }
                }
            }
        }
    }
}
