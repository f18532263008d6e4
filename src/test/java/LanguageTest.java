import java.lang.reflect.Constructor;
import java.lang.reflect.Executable;
import java.lang.reflect.Field;
import java.lang.reflect.Method;
import java.lang.reflect.Modifier;
import java.nio.file.Files;
import java.nio.file.Path;
import java.util.ArrayList;
import java.util.List;
import java.util.Set;
import java.util.TreeSet;
import java.util.regex.Matcher;
import java.util.regex.Pattern;

/** The face is the document's and no more, and the source keeps to those rules of LANGUAGE.md that can be looked up. */
public final class LanguageTest {
  private static final Check C = new Check();

  public static void main(String[] args) throws Exception {
    face(Files.readString(Path.of("../shared/DOC.md")));
    String source = Files.readString(Path.of("src/main/java/TreatyRouter.java"));
    String code = source.replaceAll("(?s)/\\*.*?\\*/", "").replaceAll("//[^\n]*", "").replaceAll("\"[^\"\n]*\"", "\"\"");
    for (char c : source.toCharArray()) if (c != '\n' && (c < 32 || c > 126)) C.due("a sign of the source", c, ' ');
    imports(code);
    forbidden(code);
    names();
    sizes(code);
    C.finish("LanguageTest");
  }

  private static String plain(Executable e) {
    StringBuilder b = new StringBuilder(e instanceof Method m ? m.getReturnType().getSimpleName() + " " : "");
    b.append(e instanceof Method ? e.getName() : "TreatyRouter").append('(');
    for (Class<?> p : e.getParameterTypes()) b.append(p.getSimpleName()).append(',');
    return b.append(')').toString();
  }

  private static void face(String doc) {
    Set<String> told = new TreeSet<>();
    Matcher m = Pattern.compile("(?m)^    public (\\w+ )?(\\w+)\\((.*?)\\)( throws \\w+)?;").matcher(doc);
    while (m.find()) {
      StringBuilder b = new StringBuilder(m.group(1) == null ? "" : m.group(1)).append(m.group(2)).append('(');
      if (!m.group(3).isEmpty()) for (String p : m.group(3).split(", ")) b.append(p.split(" ")[0]).append(',');
      told.add(b.append(')').toString());
    }
    Set<String> here = new TreeSet<>();
    for (Method x : TreatyRouter.class.getDeclaredMethods()) if (!Modifier.isPrivate(x.getModifiers()) && !x.isSynthetic()) here.add(plain(x));
    for (Constructor<?> x : TreatyRouter.class.getDeclaredConstructors()) here.add(plain(x));
    C.due("how many the document tells", told.size(), 43);
    C.due("the face", here.toString(), told.toString());
    Set<String> constants = new TreeSet<>();
    for (Field x : TreatyRouter.class.getDeclaredFields()) if (!Modifier.isPrivate(x.getModifiers()) && !x.isSynthetic()) constants.add(x.getName());
    C.due("the constants", constants.toString(), "[HIDDEN, NONE]");
    C.due("public final", Modifier.isFinal(TreatyRouter.class.getModifiers()), true);
    C.due("NONE", TreatyRouter.NONE, -1);
    C.due("HIDDEN", TreatyRouter.HIDDEN, -1000000);
  }

  private static void imports(String code) {
    Matcher m = Pattern.compile("(?m)^import .*$").matcher(code);
    while (m.find()) C.due("import", m.group(), "import java.util.NoSuchElementException;");
    C.due("a package", code.contains("\npackage ") || code.startsWith("package "), false);
  }

  private static void forbidden(String code) {
    String[] words = {"->", "::", "\\btry\\b", "\\bcatch\\b", "\\bfinally\\b", "\\bsynchronized\\b", "\\bassert\\b", "\\byield\\b", "\\bvar\\b",
        "Exact\\(", "\\bMath\\.(?!min|max)", "\\bSystem\\.(?!arraycopy)", "\\bRandom\\b", "\\bThread\\b", "static \\{", "\\bprotected\\b",
        "\\bgoto\\b", "\\bwhile \\(true\\)", "for \\(;;\\)", "\\.equals\\(", "hashCode", "toString", "\\+ \"", "\" \\+", "\\bdouble\\b", "\\bfloat\\b"};
    for (String w : words) C.due("forbidden: " + w, Pattern.compile(w).matcher(code).find(), false);
    Matcher m = Pattern.compile("throw new (\\w+)\\(").matcher(code);
    while (m.find()) C.due("thrown", m.group(1), "NoSuchElementException");
  }

  private static List<Class<?>> classes() {
    List<Class<?>> all = new ArrayList<>(List.of(TreatyRouter.class.getDeclaredClasses()));
    all.add(TreatyRouter.class);
    return all;
  }

  private static void names() {
    Set<String> open = new TreeSet<>();
    for (Method x : TreatyRouter.class.getDeclaredMethods()) if (Modifier.isPublic(x.getModifiers())) open.add(x.getName());
    for (Class<?> c : classes()) {
      for (Method x : c.getDeclaredMethods()) {
        boolean face = c == TreatyRouter.class && Modifier.isPublic(x.getModifiers());
        C.due("a name of the face: " + x, !face && open.contains(x.getName()), false);
      }
    }
  }

  private static void sizes(String code) {
    C.due("classes", classes().size() <= 12, true);
    for (Class<?> c : classes()) {
      int fields = 0;
      for (Field f : c.getDeclaredFields()) {
        if (!Modifier.isStatic(f.getModifiers())) fields++;
        else C.due("static and final: " + f, Modifier.isFinal(f.getModifiers()), true);
      }
      C.due("fields of " + c, fields <= 20, true);
      if (c != TreatyRouter.class) C.due("static: " + c, Modifier.isStatic(c.getModifiers()), true);
      for (Method m : c.getDeclaredMethods()) C.due("parameters of " + m, m.getParameterCount() <= 7, true);
    }
    int open = -1;
    String[] lines = code.split("\n");
    for (int i = 0; i < lines.length; i++) {
      C.due("length of line " + (i + 1), lines[i].length() <= 120, true);
      boolean head = lines[i].matches("( {4}| {8})[a-zA-Z].*\\) (throws \\w+ )?\\{");
      if (head) open = i;
      if (open >= 0 && lines[i].matches("( {4}| {8})\\}") && lines[i].indexOf('}') == lines[open].indexOf(lines[open].trim())) {
        C.due("length of the method at line " + (open + 1), i - open <= 60, true);
        open = -1;
      }
    }
  }
}
