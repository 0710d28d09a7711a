import java.io.File;
import java.lang.reflect.InvocationTargetException;
import java.lang.reflect.Method;
import java.lang.reflect.Modifier;
import java.net.URL;
import java.net.URLClassLoader;
import java.nio.file.Files;
import java.nio.file.Path;
import java.util.List;
import java.util.regex.Matcher;
import java.util.regex.Pattern;
import javax.tools.JavaCompiler;
import javax.tools.ToolProvider;

/** The example of README.md compiles and answers as its comments say; each call of the face is named in it. */
public final class ReadmeHolds {
  /** A call of the example whose answer is told behind it. */
  private static final Pattern TOLD = Pattern.compile("(?:int (\\w+) = )?(x\\.\\w+\\(.*?\\)); +// (-?\\d+|[A-Z]+)(?::.*)?");
  private static int wrong = 0;
  private static int told = 0;

  private static void want(boolean good, String what) {
    if (!good) {
      wrong++;
      System.out.println("not as it should be: " + what);
    }
  }

  /** Called by the compiled example. */
  public static long due(String call, long got, long want) {
    told++;
    want(got == want, "README.md: " + call + " answered " + got + ", told is " + want);
    return got;
  }

  private static String program(List<String> readme) {
    StringBuilder text = new StringBuilder("public final class ReadmeExample {\n  public static void run() {\n");
    boolean inside = false;
    for (String line : readme) {
      if (line.startsWith("```")) {
        inside = line.equals("```java");
      } else if (inside) {
        text.append(statement(line)).append('\n');
      }
    }
    return text.append("  }\n}\n").toString();
  }

  private static String statement(String line) {
    Matcher m = TOLD.matcher(line);
    if (!m.matches()) {
      want(!line.startsWith("x.") && !line.contains("= x."), "README.md tells no answer of: " + line);
      return line;
    }
    String want = m.group(3).matches("[A-Z]+") ? "NearCopies." + m.group(3) : m.group(3);
    String asked = "ReadmeHolds.due(\"" + m.group(2) + "\", " + m.group(2) + ", " + want + ");";
    return m.group(1) == null ? asked : "int " + m.group(1) + " = (int) " + asked;
  }

  private static void example(List<String> readme) throws Exception {
    JavaCompiler compiler = ToolProvider.getSystemJavaCompiler();
    want(compiler != null, "there is a compiler");
    if (compiler == null) return;
    Path out = Files.createTempDirectory("readme");
    Path file = out.resolve("ReadmeExample.java");
    Files.writeString(file, program(readme));
    int refused = compiler.run(null, null, null, "-cp", System.getProperty("java.class.path"), "-d", out.toString(), file.toString());
    want(refused == 0, "the example of README.md compiles");
    if (refused == 0) {
      try (URLClassLoader loader = new URLClassLoader(new URL[] {out.toUri().toURL()})) {
        loader.loadClass("ReadmeExample").getMethod("run").invoke(null);
      } catch (InvocationTargetException thrown) {
        want(false, "the example of README.md threw " + thrown.getCause());
      }
    }
    for (File made : out.toFile().listFiles()) made.delete();
    out.toFile().delete();
    want(told > 0, "the example tells answers");
  }

  private static void names(String readme) {
    for (Method m : NearCopies.class.getDeclaredMethods()) {
      boolean open = Modifier.isPublic(m.getModifiers());
      want(!open || readme.contains("`" + m.getName() + "`"), "README.md names " + m.getName());
    }
  }

  public static void main(String[] args) throws Exception {
    Path readme = Path.of("README.md");
    example(Files.readAllLines(readme));
    names(Files.readString(readme));
    System.out.println(wrong == 0 ? "README.md: " + told + " answers are as told" : wrong + " things in README.md do not hold");
    if (wrong != 0) System.exit(1);
  }
}
