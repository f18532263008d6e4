import java.io.IOException;
import java.lang.reflect.Method;
import java.lang.reflect.Modifier;
import java.net.URL;
import java.net.URLClassLoader;
import java.nio.file.Files;
import java.nio.file.Path;
import java.util.ArrayList;
import java.util.List;
import java.util.Set;
import java.util.TreeSet;
import java.util.regex.Matcher;
import java.util.regex.Pattern;
import java.util.stream.Stream;
import javax.tools.ToolProvider;

/**
 * README.md holds: its Java is compiled and run as it stands there, each call beside the answer that is told behind it;
 * it names every call of the face, every test, and every class inside.
 */
public final class ReadmeTest {
  /** A call, and behind // its answer, the first word. */
  private static final Pattern ANSWERED = Pattern.compile("((?:x\\.\\w+|put)\\(.*\\)); // (\\w+|-\\d+)(:.*)?");
  private static final Check C = new Check();

  public static void main(String[] args) throws Exception {
    String page = Files.readString(Path.of("README.md"));
    shown(page);
    named(page);
    C.finish("ReadmeTest");
  }

  private static void shown(String page) throws Exception {
    StringBuilder methods = new StringBuilder();
    StringBuilder calls = new StringBuilder();
    List<String> told = new ArrayList<>();
    List<String> due = new ArrayList<>();
    Matcher block = Pattern.compile("(?s)```java\n(.*?)```").matcher(page);
    while (block.find()) {
      if (block.group(1).startsWith("static ")) methods.append(block.group(1));
      else for (String line : block.group(1).split("\n")) calls.append(read(line, told, due)).append('\n');
    }
    List<Object> got = run("public final class Shown {\n" + methods + "public static void all(java.util.List<Object> got) {\n" + calls + "}\n}\n");
    C.due("calls that answered", got.size(), told.size());
    for (int i = 0; i < got.size() && i < told.size(); i++) C.due(told.get(i), got.get(i).toString(), due.get(i));
  }

  /** A line of the page, so that its answer is kept; a call that no answer stands behind is a failure. */
  private static String read(String line, List<String> told, List<String> due) {
    Matcher m = ANSWERED.matcher(line);
    if (!m.matches()) {
      C.due("what is no call with an answer", line, "TreatyRouter x = new TreatyRouter();");
      return line;
    }
    told.add(m.group(1));
    due.add(m.group(2).replaceAll("^NONE$", "" + TreatyRouter.NONE).replaceAll("^HIDDEN$", "" + TreatyRouter.HIDDEN));
    return "try { got.add(" + m.group(1) + "); } catch (RuntimeException e) { got.add(e.getClass().getSimpleName()); }";
  }

  private static List<Object> run(String source) throws Exception {
    Path out = Files.createTempDirectory("readme");
    Path file = Files.writeString(out.resolve("Shown.java"), source);
    String here = Path.of(ReadmeTest.class.getProtectionDomain().getCodeSource().getLocation().toURI()).toString();
    int compiled = ToolProvider.getSystemJavaCompiler().run(null, null, null, "-cp", here, "-d", out.toString(), file.toString());
    C.due("the page's Java is compiled", compiled, 0);
    List<Object> got = new ArrayList<>();
    if (compiled == 0) {
      try (URLClassLoader loader = new URLClassLoader(new URL[] {out.toUri().toURL()}, ReadmeTest.class.getClassLoader())) {
        loader.loadClass("Shown").getMethod("all", List.class).invoke(null, got);
      }
    }
    try (Stream<Path> files = Files.list(out)) {
      for (Path p : files.toList()) Files.delete(p);
    }
    Files.delete(out);
    return got;
  }

  private static void named(String page) throws IOException {
    for (Method m : TreatyRouter.class.getDeclaredMethods()) {
      if (Modifier.isPublic(m.getModifiers())) C.due("names " + m.getName(), page.contains("`" + m.getName() + "("), true);
    }
    for (Class<?> c : TreatyRouter.class.getDeclaredClasses()) C.due("names " + c.getSimpleName(), page.contains("`" + c.getSimpleName() + "`"), true);
    Set<String> here = new TreeSet<>();
    try (Stream<Path> files = Files.list(Path.of("src/test/java"))) {
      for (Path p : files.toList()) if (p.toString().endsWith("Test.java")) here.add(p.getFileName().toString().replace(".java", ""));
    }
    Set<String> told = new TreeSet<>();
    Matcher m = Pattern.compile("(?m)^- `(\\w+Test)`").matcher(page);
    while (m.find()) told.add(m.group(1));
    C.due("the tests", told.toString(), here.toString());
  }
}
