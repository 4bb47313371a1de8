import java.io.IOException;
import java.lang.management.ManagementFactory;
import java.lang.reflect.Constructor;
import java.lang.reflect.Field;
import java.lang.reflect.Method;
import java.lang.reflect.Modifier;
import java.nio.charset.StandardCharsets;
import java.nio.file.Files;
import java.nio.file.Path;
import java.util.Arrays;
import java.util.Random;
import java.util.Set;
import java.util.TreeSet;
import java.util.regex.Matcher;
import java.util.regex.Pattern;

/** The rules for the class that a program can look at: its face, its words, its size, its room. */
public final class LanguageTest {
  private static final Checks CHECKS = new Checks();
  private static final Path SOURCE = Path.of("src/main/java/PlaneTests.java");

  private static final Set<String> FACE = Set.of(
      "node()", "arc(int,int)", "cut(int)", "clear()", "test()", "outer()", "degree(int)",
      "turn(int,int)", "faces()", "face(int,int)", "round(int,int)", "dual(int,int)", "dualBack()",
      "place(int,int)", "crossing()", "piece(int)", "barred()", "branch(int)", "strand(int)",
      "told(int,int)", "swap(int,int,int)", "take()", "genus()", "toldFaces()");

  private static final String[] BARRED = {
    "\\bthrow\\b", "\\bthrows\\b", "\\btry\\b", "\\bcatch\\b", "\\bsynchronized\\b",
    "\\bassert\\b", "->", "::", "Exact\\b", "\\bpackage\\b", "while \\(true\\)", "for \\(;;\\)",
    "\\bSystem\\.(?!arraycopy)", "\\bThread\\b", "\\bRandom\\b", "\\bObject\\b", "\\bvar\\b",
    "\\.equals\\(", "hashCode", "toString", "\\bstatic \\{"
  };

  private static final Set<String> LIBRARY = Set.of("Arrays.fill", "System.arraycopy", "Math.min",
      "Math.max", "Integer.bitCount");

  public static void main(String[] args) {
    CHECKS.runAll(LanguageTest.class);
  }

  private static String signature(Method m) {
    StringBuilder text = new StringBuilder(m.getName()).append('(');
    for (Class<?> type : m.getParameterTypes()) {
      if (text.charAt(text.length() - 1) != '(') text.append(',');
      text.append(type.getName());
    }
    return text.append(')').toString();
  }

  private static void rule01Face() {
    Class<?> c = PlaneTests.class;
    CHECKS.due("public final", c.getModifiers(), Modifier.PUBLIC | Modifier.FINAL);
    Set<String> found = new TreeSet<>();
    Set<String> names = new TreeSet<>();
    for (Method m : c.getDeclaredMethods()) {
      if (Modifier.isPrivate(m.getModifiers())) continue;
      CHECKS.due(m + " is public alone", m.getModifiers(), Modifier.PUBLIC);
      CHECKS.due(m + " answers an int", m.getReturnType() == int.class ? 1 : 0, 1);
      found.add(signature(m));
      names.add(m.getName());
    }
    CHECKS.due("the face is " + found, found.equals(FACE) ? 1 : 0, 1);
    for (Method m : c.getDeclaredMethods()) {
      if (!Modifier.isPrivate(m.getModifiers())) continue;
      CHECKS.due(m + " has a name of its own", names.contains(m.getName()) ? 1 : 0, 0);
    }
    for (Field f : c.getDeclaredFields()) {
      CHECKS.due(f + " is private", Modifier.isPrivate(f.getModifiers()) ? 1 : 0, 1);
    }
    Constructor<?>[] makers = c.getDeclaredConstructors();
    CHECKS.due("constructors", makers.length, 1);
    CHECKS.due("its constructor is public", makers[0].getModifiers(), Modifier.PUBLIC);
    CHECKS.due("its constructor takes nothing", makers[0].getParameterCount(), 0);
  }

  private static void rule02Nested() {
    Class<?>[] classes = PlaneTests.class.getDeclaredClasses();
    CHECKS.due(classes.length + " classes inside", classes.length <= 11 ? 1 : 0, 1);
    for (Class<?> c : classes) {
      CHECKS.due(c + " is static", Modifier.isStatic(c.getModifiers()) ? 1 : 0, 1);
      int open = c.getModifiers() & (Modifier.PUBLIC | Modifier.PROTECTED);
      CHECKS.due(c + " is hidden", open, 0);
    }
  }

  /** Numbers, truths, rows of these, and classes of the file's own. */
  private static void rule03TypesOfFields() {
    typesOfFields(PlaneTests.class);
    for (Class<?> c : PlaneTests.class.getDeclaredClasses()) typesOfFields(c);
  }

  private static void typesOfFields(Class<?> c) {
    for (Field f : c.getDeclaredFields()) {
      Class<?> type = f.getType().isArray() ? f.getType().getComponentType() : f.getType();
      boolean known = type.isPrimitive() || type.getName().startsWith("PlaneTests");
      CHECKS.due(f + " has a type of the list", known ? 1 : 0, 1);
    }
  }

  /** Static fields are constants. */
  private static void rule05StaticFields() {
    staticFields(PlaneTests.class);
    for (Class<?> c : PlaneTests.class.getDeclaredClasses()) staticFields(c);
  }

  private static void staticFields(Class<?> c) {
    for (Field f : c.getDeclaredFields()) {
      if (!Modifier.isStatic(f.getModifiers())) continue;
      CHECKS.due(f + " is final", Modifier.isFinal(f.getModifiers()) ? 1 : 0, 1);
      CHECKS.due(f + " is a number", f.getType().isPrimitive() ? 1 : 0, 1);
    }
  }

  /** No call throws, whatever it is given, and long behind the last call that is promised. */
  private static void rule07NoCallThrows() {
    int[] odd = {Integer.MIN_VALUE, Integer.MIN_VALUE + 1, -161, -81, -21, -2, -1, 19, 20, 21, 31,
      32, 33, 63, 64, 79, 80, 81, 159, 160, 161, 1 << 30, Integer.MAX_VALUE - 1, Integer.MAX_VALUE};
    Random random = new Random(7);
    for (int run = 0; run < 40; run++) {
      PlaneTests x = new PlaneTests();
      int calls = 0;
      for (; calls < 3000; calls++) {
        int kind = random.nextInt(run % 2 == 0 || calls < 300 ? 50 : 23);
        int[] n = new int[3];
        for (int j = 0; j < 3; j++) {
          n[j] = random.nextInt(20) == 0 ? odd[random.nextInt(odd.length)] : random.nextInt(22);
        }
        int answer = call(x, random.nextInt(400) == 0 ? 23 : kind, n[0], n[1], n[2]);
        // what later calls answer is free
        if (calls < 512) CHECKS.due("from -4 on", answer >= -4 ? 1 : 0, 1);
      }
      CHECKS.due("calls that ended", calls, 3000);
    }
  }

  /** The same calls give the same answers, whatever other objects were asked between them. */
  private static void rule13TheSameAnswers() {
    Random random = new Random(13);
    for (int run = 0; run < 40; run++) {
      PlaneTests x = new PlaneTests();
      PlaneTests y = new PlaneTests();
      for (int i = 0; i < 512; i++) {
        int kind = random.nextInt(40);
        int a = random.nextInt(12);
        int b = random.nextInt(10);
        int c = random.nextInt(6);
        CHECKS.due("call " + kind, call(x, kind, a, b, c), call(y, kind, a, b, c));
        call(new PlaneTests(), kind, a, b, c);
      }
    }
  }

  /** Kinds beyond all calls are arcs and nodes more. */
  private static int call(PlaneTests x, int kind, int a, int b, int c) {
    switch (kind) {
      case 0: return x.cut(a);
      case 1: return x.test();
      case 2: return x.outer();
      case 3: return x.degree(a);
      case 4: return x.turn(a, b);
      case 5: return x.faces();
      case 6: return x.face(a, b);
      case 7: return x.round(a, b);
      case 8: return x.dual(a, b);
      case 9: return x.dualBack();
      case 10: return x.place(a, b);
      case 11: return x.crossing();
      case 12: return x.piece(a);
      case 13: return x.barred();
      case 14: return x.branch(a);
      case 15: return x.strand(a);
      case 16: return x.told(a, b);
      case 17: return x.swap(a, b, c);
      case 18: return x.take();
      case 19: return x.genus();
      case 20: return x.toldFaces();
      case 21: return x.dual(a, b % 2);
      case 22: return x.place(a, b % 2);
      case 23: return x.clear();
      default: return kind % 3 == 0 ? x.node() : x.arc(a, b);
    }
  }

  /** Seven parameters, and some twenty fields, at most. */
  private static void rule11Sizes() {
    sizes(PlaneTests.class);
    for (Class<?> c : PlaneTests.class.getDeclaredClasses()) sizes(c);
  }

  private static void sizes(Class<?> c) {
    for (Method m : c.getDeclaredMethods()) {
      CHECKS.due(m + " has few parameters", m.getParameterCount() <= 7 ? 1 : 0, 1);
    }
    int fields = 0;
    for (Field f : c.getDeclaredFields()) fields += Modifier.isStatic(f.getModifiers()) ? 0 : 1;
    CHECKS.due(c + " has " + fields + " fields", fields <= 20 ? 1 : 0, 1);
  }

  private static String bare() throws IOException {
    String text = Files.readString(SOURCE, StandardCharsets.ISO_8859_1);
    return text.replaceAll("(?s)/\\*.*?\\*/", "").replaceAll("//[^\n]*", "");
  }

  private static void rule06Words() throws IOException {
    String text = bare();
    for (String word : BARRED) {
      Matcher m = Pattern.compile(word).matcher(text);
      CHECKS.due("the source has " + word, m.find() ? 1 : 0, 0);
    }
  }

  /** What may be called is listed; the class needs but a part of that. */
  private static void rule04Library() throws IOException {
    String text = bare();
    Pattern call = Pattern.compile("\\b(Arrays|System|Math|Integer|Long|String)\\.\\w+");
    Matcher calls = call.matcher(text);
    while (calls.find()) {
      CHECKS.due(calls.group() + " is allowed", LIBRARY.contains(calls.group()) ? 1 : 0, 1);
    }
    Matcher imports = Pattern.compile("import ([^;]*);").matcher(text);
    while (imports.find()) {
      CHECKS.due(imports.group(), imports.group(1).equals("java.util.Arrays") ? 1 : 0, 1);
    }
  }

  private static void rule12ObjectsAreMadeForFieldsAlone() throws IOException {
    String text = bare();
    int made = text.split("\\bnew ", -1).length - 1;
    int inFields = text.split("= new ", -1).length - 1;
    CHECKS.due("objects are made for fields alone", made - inFields, 0);
  }

  /** Methods have at most sixty lines. */
  private static void rule11Lengths() throws IOException {
    String[] lines = bare().split("\n", -1);
    int start = -1;
    String indent = "";
    for (int i = 0; i < lines.length; i++) {
      Matcher head = Pattern.compile("^( +)[A-Za-z].*\\) \\{$").matcher(lines[i]);
      if (head.matches() && start < 0) {
        start = i;
        indent = head.group(1);
      } else if (start >= 0 && lines[i].equals(indent + "}")) {
        CHECKS.due(lines[start].trim() + " is too long", i - start + 1 <= 60 ? 1 : 0, 1);
        start = -1;
      }
    }
    CHECKS.due("all methods end", start, -1);
  }

  /** Calls make no objects: all room is taken by the constructor. */
  private static void rule12Room() {
    com.sun.management.ThreadMXBean bean =
        (com.sun.management.ThreadMXBean) ManagementFactory.getThreadMXBean();
    PlaneTests x = new PlaneTests();
    allCalls(x);
    x.clear();
    long before = bean.getCurrentThreadAllocatedBytes();
    allCalls(x);
    long made = bean.getCurrentThreadAllocatedBytes() - before;
    CHECKS.due("calls made " + made + " bytes of objects", made < 1024 ? 1 : 0, 1);
    before = bean.getCurrentThreadAllocatedBytes();
    PlaneTests[] many = new PlaneTests[100];
    Arrays.setAll(many, i -> new PlaneTests());
    made = (bean.getCurrentThreadAllocatedBytes() - before) / 100;
    CHECKS.due("an object has " + made + " bytes", made < 20000 ? 1 : 0, 1);
  }

  private static void allCalls(PlaneTests x) {
    for (int v = 0; v < 20; v++) x.node();
    for (int k = 0; k < 80; k++) {
      x.arc(k % 20, (k * k + 3 * k / 20 + 1) % 20);
      x.test();
      x.outer();
      x.turn(k % 20, 0);
      x.faces();
      x.face(0, 0);
      x.round(k % 20, 1);
      x.dual(k, 0);
      x.dualBack();
      x.place(k % 20, 0);
      x.crossing();
      x.piece(0);
      x.barred();
      x.branch(0);
      x.strand(k);
      x.told(k % 20, 0);
      x.swap(k % 20, 0, 0);
      x.take();
      x.genus();
      x.toldFaces();
      x.degree(k % 20);
    }
    for (int k = 0; k < 80; k++) {
      x.cut(k);
      x.place(0, 0);
    }
  }
}
