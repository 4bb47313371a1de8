import java.lang.reflect.Method;

/** Each promise of the document has tests that are named after it, of its edges too. */
public final class NamesTest {
  private static final Checks CHECKS = new Checks();
  private static final Class<?>[] EDGES = {GraphEdgesTest.class, PlaneEdgesTest.class,
    BarredEdgesTest.class, ToldEdgesTest.class};

  public static void main(String[] args) {
    int[] tests = new int[26];
    for (Class<?> c : EDGES) {
      for (Method m : c.getDeclaredMethods()) {
        if (!m.getName().startsWith("promise")) continue;
        tests[Integer.parseInt(m.getName().substring(7, 9))]++;
      }
    }
    for (int p = 1; p <= 25; p++) {
      CHECKS.due("promise " + p + " has tests of its edges", tests[p] > 0 ? 1 : 0, 1);
    }
    CHECKS.finish();
  }
}
