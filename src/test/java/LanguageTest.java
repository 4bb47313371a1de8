import java.io.IOException;
import java.lang.management.ManagementFactory;
import java.lang.reflect.Constructor;
import java.lang.reflect.Field;
import java.lang.reflect.Method;
import java.lang.reflect.Modifier;
import java.nio.charset.StandardCharsets;
import java.nio.file.Files;
import java.nio.file.Path;
import java.util.Arrays;
import java.util.Set;
import java.util.TreeSet;
import java.util.regex.Matcher;
import java.util.regex.Pattern;

/** The rules for the class that a program can look at: its face, its words, its size, its room. */
public final class LanguageTest {
  private static final Checks CHECKS = new Checks();
  private static final Path SOURCE = Path.of("src/main/java/PlaneTests.java");

  private static final Set<String> FACE = Set.of(
      "node()", "arc(int,int)", "cut(int)", "clear()", "test()", "outer()", "degree(int)",
      "turn(int,int)", "faces()", "face(int,int)", "round(int,int)", "dual(int,int)", "dualBack()",
      "place(int,int)", "crossing()", "piece(int)", "barred()", "branch(int)", "strand(int)",
      "told(int,int)", "swap(int,int,int)", "take()", "genus()", "toldFaces()");

  private static final String[] BARRED = {
    "\\bthrow\\b", "\\bthrows\\b", "\\btry\\b", "\\bcatch\\b", "\\bsynchronized\\b",
    "\\bassert\\b", "->", "::", "Exact\\b", "\\bpackage\\b", "while \\(true\\)", "for \\(;;\\)",
    "\\bSystem\\.(?!arraycopy)", "\\bThread\\b", "\\bRandom\\b", "\\bObject\\b", "\\bvar\\b",
    "\\.equals\\(", "hashCode", "toString", "\\bstatic \\{"
  };

  public static void main(String[] args) throws IOException {
    face();
    nested();
    words();
    lengths();
    room();
    CHECKS.finish();
  }

  private static String signature(Method m) {
    StringBuilder text = new StringBuilder(m.getName()).append('(');
    for (Class<?> type : m.getParameterTypes()) {
      if (text.charAt(text.length() - 1) != '(') text.append(',');
      text.append(type.getName());
    }
    return text.append(')').toString();
  }

  private static void face() {
    Class<?> c = PlaneTests.class;
    CHECKS.due("public final", c.getModifiers(), Modifier.PUBLIC | Modifier.FINAL);
    Set<String> found = new TreeSet<>();
    Set<String> names = new TreeSet<>();
    for (Method m : c.getDeclaredMethods()) {
      if (Modifier.isPrivate(m.getModifiers())) continue;
      CHECKS.due(m + " is public alone", m.getModifiers(), Modifier.PUBLIC);
      CHECKS.due(m + " answers an int", m.getReturnType() == int.class ? 1 : 0, 1);
      found.add(signature(m));
      names.add(m.getName());
    }
    CHECKS.due("the face is " + found, found.equals(FACE) ? 1 : 0, 1);
    for (Method m : c.getDeclaredMethods()) {
      if (!Modifier.isPrivate(m.getModifiers())) continue;
      CHECKS.due(m + " has a name of its own", names.contains(m.getName()) ? 1 : 0, 0);
    }
    for (Field f : c.getDeclaredFields()) {
      CHECKS.due(f + " is private", Modifier.isPrivate(f.getModifiers()) ? 1 : 0, 1);
    }
    Constructor<?>[] makers = c.getDeclaredConstructors();
    CHECKS.due("constructors", makers.length, 1);
    CHECKS.due("its constructor is public", makers[0].getModifiers(), Modifier.PUBLIC);
    CHECKS.due("its constructor takes nothing", makers[0].getParameterCount(), 0);
  }

  private static void nested() {
    Class<?>[] classes = PlaneTests.class.getDeclaredClasses();
    CHECKS.due(classes.length + " classes inside", classes.length <= 12 ? 1 : 0, 1);
    for (Class<?> c : classes) {
      CHECKS.due(c + " is static", Modifier.isStatic(c.getModifiers()) ? 1 : 0, 1);
      int open = c.getModifiers() & (Modifier.PUBLIC | Modifier.PROTECTED);
      CHECKS.due(c + " is hidden", open, 0);
      int fields = 0;
      for (Field f : c.getDeclaredFields()) {
        if (Modifier.isStatic(f.getModifiers())) {
          CHECKS.due(f + " is final", Modifier.isFinal(f.getModifiers()) ? 1 : 0, 1);
        } else {
          fields++;
        }
      }
      CHECKS.due(c + " has " + fields + " fields", fields <= 20 ? 1 : 0, 1);
    }
  }

  private static String bare() throws IOException {
    String text = Files.readString(SOURCE, StandardCharsets.ISO_8859_1);
    return text.replaceAll("(?s)/\\*.*?\\*/", "").replaceAll("//[^\n]*", "");
  }

  private static void words() throws IOException {
    String text = bare();
    for (String word : BARRED) {
      Matcher m = Pattern.compile(word).matcher(text);
      CHECKS.due("the source has " + word, m.find() ? 1 : 0, 0);
    }
    Matcher imports = Pattern.compile("import ([^;]*);").matcher(text);
    while (imports.find()) {
      CHECKS.due(imports.group(), imports.group(1).equals("java.util.Arrays") ? 1 : 0, 1);
    }
    int made = text.split("\\bnew ", -1).length - 1;
    int inFields = text.split("= new ", -1).length - 1;
    CHECKS.due("objects are made for fields alone", made - inFields, 0);
  }

  /** Methods have at most sixty lines. */
  private static void lengths() throws IOException {
    String[] lines = bare().split("\n", -1);
    int start = -1;
    String indent = "";
    for (int i = 0; i < lines.length; i++) {
      Matcher head = Pattern.compile("^( +)[A-Za-z].*\\) \\{$").matcher(lines[i]);
      if (head.matches() && start < 0) {
        start = i;
        indent = head.group(1);
      } else if (start >= 0 && lines[i].equals(indent + "}")) {
        CHECKS.due(lines[start].trim() + " is too long", i - start + 1 <= 60 ? 1 : 0, 1);
        start = -1;
      }
    }
    CHECKS.due("all methods end", start, -1);
  }

  /** Calls make no objects: all room is taken by the constructor. */
  private static void room() {
    com.sun.management.ThreadMXBean bean =
        (com.sun.management.ThreadMXBean) ManagementFactory.getThreadMXBean();
    PlaneTests x = new PlaneTests();
    allCalls(x);
    x.clear();
    long before = bean.getCurrentThreadAllocatedBytes();
    allCalls(x);
    long made = bean.getCurrentThreadAllocatedBytes() - before;
    CHECKS.due("calls made " + made + " bytes of objects", made < 1024 ? 1 : 0, 1);
    before = bean.getCurrentThreadAllocatedBytes();
    PlaneTests[] many = new PlaneTests[100];
    Arrays.setAll(many, i -> new PlaneTests());
    made = (bean.getCurrentThreadAllocatedBytes() - before) / 100;
    CHECKS.due("an object has " + made + " bytes", made < 20000 ? 1 : 0, 1);
  }

  private static void allCalls(PlaneTests x) {
    for (int v = 0; v < 20; v++) x.node();
    for (int k = 0; k < 80; k++) {
      x.arc(k % 20, (k * k + 3 * k / 20 + 1) % 20);
      x.test();
      x.outer();
      x.turn(k % 20, 0);
      x.faces();
      x.face(0, 0);
      x.round(k % 20, 1);
      x.dual(k, 0);
      x.dualBack();
      x.place(k % 20, 0);
      x.crossing();
      x.piece(0);
      x.barred();
      x.branch(0);
      x.strand(k);
      x.told(k % 20, 0);
      x.swap(k % 20, 0, 0);
      x.take();
      x.genus();
      x.toldFaces();
      x.degree(k % 20);
    }
    for (int k = 0; k < 80; k++) {
      x.cut(k);
      x.place(0, 0);
    }
  }
}
