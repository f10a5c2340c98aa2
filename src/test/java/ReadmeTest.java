import java.io.ByteArrayOutputStream;
import java.io.PrintStream;
import java.lang.reflect.Method;
import java.lang.reflect.Modifier;
import java.nio.file.Files;
import java.nio.file.Path;
import java.util.regex.Matcher;
import java.util.regex.Pattern;
import javax.tools.JavaCompiler;
import javax.tools.ToolProvider;

/** The example in README.md compiles, answers what stands behind its calls, and no method is left out there. */
public final class ReadmeTest {
    private static final Pattern ANSWERED = Pattern.compile("^(x\\..*\\));\\s*// = (-?\\w+).*$");
    private static int wrong;

    public static void main(String[] args) throws Exception {
        String text = Files.readString(Path.of(args.length > 0 ? args[0] : ".", "README.md"));
        everyMethodIsNamed(text);
        int answers = runExample(text);
        check(answers > 0, "the example has no answers");
        System.out.println("README.md: " + answers + " answers looked at, " + wrong + " wrong");
        if (wrong != 0) System.exit(1);
    }

    private static void check(boolean holds, String what) {
        if (!holds) {
            wrong++;
            System.out.println("README.md: " + what);
        }
    }

    private static void everyMethodIsNamed(String text) {
        for (Method m : GangMatrix.class.getDeclaredMethods()) {
            boolean open = Modifier.isPublic(m.getModifiers());
            check(!open || text.contains("`" + m.getName() + "("), m.getName() + " is not named");
        }
    }

    private static int runExample(String text) throws Exception {
        int from = text.indexOf("```java\n");
        int to = text.indexOf("```", from + 3);
        if (from < 0 || to < 0) return 0;
        StringBuilder code = new StringBuilder("public final class Example {\n  public static int wrong;\n"
            + "  static void due(String call, Object got, Object want) {\n    if (!got.equals(want)) {\n      wrong++;\n"
            + "      System.out.println(\"README.md: \" + call + \" answered \" + got + \", due is \" + want);\n    }\n  }\n"
            + "  public static void main(String[] args) {\n");
        int answers = 0;
        for (String line : text.substring(from + 8, to).split("\n")) {
            Matcher m = ANSWERED.matcher(line);
            boolean answered = m.matches();
            code.append(answered ? "due(\"" + m.group(1) + "\", " + m.group(1) + ", " + m.group(2) + ");" : line).append('\n');
            answers += answered ? 1 : 0;
        }
        run(code.append("  }\n}\n").toString());
        return answers;
    }

    private static void run(String code) throws Exception {
        Path home = Path.of(ReadmeTest.class.getProtectionDomain().getCodeSource().getLocation().toURI());
        Path source = Files.writeString(home.resolve("Example.java"), code);
        JavaCompiler javac = ToolProvider.getSystemJavaCompiler();
        ByteArrayOutputStream said = new ByteArrayOutputStream();
        int failed = javac.run(null, new PrintStream(said), new PrintStream(said),
            "-d", home.toString(), "-cp", home.toString(), source.toString());
        check(failed == 0, "the example does not compile: " + said);
        if (failed == 0) {
            Class<?> example = Class.forName("Example");
            example.getMethod("main", String[].class).invoke(null, (Object) new String[0]);
            wrong += example.getField("wrong").getInt(null);
        }
    }
}
