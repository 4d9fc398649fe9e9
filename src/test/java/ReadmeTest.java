import java.io.IOException;
import java.lang.reflect.Method;
import java.net.URL;
import java.net.URLClassLoader;
import java.nio.file.Files;
import java.nio.file.Path;
import java.util.Comparator;
import java.util.List;
import java.util.regex.Matcher;
import java.util.regex.Pattern;
import java.util.stream.Stream;
import javax.tools.JavaCompiler;
import javax.tools.ToolProvider;

/** Whether what README.md shows is so: its Java lines are run as they stand, and each must answer what is written behind it. */
public final class ReadmeTest {
  private static final Pattern BLOCK = Pattern.compile("(?s)```java\n(.*?)```");
  private static final Pattern ASKED = Pattern.compile("(x\\.\\w+\\(.*\\));\\s*// (-?\\d+|true|false): .*");
  private static int asked = 0;
  private static int wrong = 0;

  /** Called by the lines of README.md. */
  public static void due(String line, Object got, String want) {
    asked++;
    if (!String.valueOf(got).equals(want)) {
      wrong++;
      System.out.println("README.md, " + line + " answered " + got);
    }
  }

  public static void main(String[] args) throws Exception {
    String page = Files.readString(Path.of("README.md"));
    Path dir = Files.createTempDirectory("readme");
    try {
      run(dir, asClass(page));
    } finally {
      removeAll(dir);
    }
    everyCallIsNamed(page);
    System.out.println(asked + " lines of README.md asked; " + wrong + " are not so");
    if (wrong != 0 || asked == 0) {
      System.exit(1);
    }
  }

  /** The blocks that begin with a method's head become methods, the lines of all others one method. */
  private static String asClass(String page) {
    StringBuilder methods = new StringBuilder();
    StringBuilder lines = new StringBuilder();
    Matcher m = BLOCK.matcher(page);
    while (m.find()) {
      if (m.group(1).startsWith("static ")) {
        methods.append(m.group(1));
      } else {
        m.group(1).lines().forEach(line -> lines.append(asCheck(line)).append('\n'));
      }
    }
    return "public final class Shown {\n" + methods + "public static void show() {\n" + lines + "}\n}\n";
  }

  private static String asCheck(String line) {
    Matcher m = ASKED.matcher(line);
    if (!m.matches()) {
      return line;
    }
    String quoted = line.replace("\\", "\\\\").replace("\"", "\\\"");
    return "ReadmeTest.due(\"" + quoted + "\", " + m.group(1) + ", \"" + m.group(2) + "\");";
  }

  private static void run(Path dir, String code) throws Exception {
    Path file = Files.writeString(dir.resolve("Shown.java"), code);
    JavaCompiler javac = ToolProvider.getSystemJavaCompiler();
    String path = System.getProperty("java.class.path");
    if (javac.run(null, null, null, "-cp", path, "-d", dir.toString(), file.toString()) != 0) {
      wrong++;
      System.out.println("README.md: its Java lines don't compile");
      return;
    }
    try (URLClassLoader loader = new URLClassLoader(new URL[] {dir.toUri().toURL()})) {
      loader.loadClass("Shown").getMethod("show").invoke(null);
    }
  }

  private static void everyCallIsNamed(String page) {
    for (Method m : OneWaySpell.class.getMethods()) {
      if (m.getDeclaringClass() == OneWaySpell.class && !page.contains("`" + m.getName() + "`")) {
        wrong++;
        System.out.println("README.md does not name " + m.getName());
      }
    }
  }

  private static void removeAll(Path dir) throws IOException {
    List<Path> all;
    try (Stream<Path> found = Files.walk(dir)) {
      all = found.sorted(Comparator.reverseOrder()).toList();
    }
    for (Path p : all) {
      Files.delete(p);
    }
  }
}
