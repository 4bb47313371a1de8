import java.lang.reflect.InvocationTargetException;
import java.lang.reflect.Method;
import java.util.TreeMap;
import java.util.function.IntUnaryOperator;

/** Counts and prints answers that are not as due. */
final class Checks {
  private int wrong = 0;
  private int asked = 0;
  /** The test that runs, told ahead of what it finds. */
  private String test = "";

  void due(String what, long got, long want) {
    asked++;
    if (got != want) fail(what + " answered " + got + ", due is " + want);
  }

  void due(String what, String got, String want) {
    asked++;
    if (!got.equals(want)) fail(what + " answered " + got + ", due is " + want);
  }

  /** A row from place 0 on: ahead of it and behind it there is no such place. */
  void dueRow(String what, IntUnaryOperator row, int... want) {
    for (int k = 0; k < want.length; k++) {
      due(what + ", place " + k, row.applyAsInt(k), want[k]);
    }
    due(what + ", the place behind the last", row.applyAsInt(want.length), -1);
    due(what + ", the place ahead of the first", row.applyAsInt(-1), -1);
  }

  private void fail(String text) {
    wrong++;
    if (wrong <= 40) System.out.println(test + text);
  }

  /** Runs every test of a class, each one a method that is named after a promise or a rule. */
  void runAll(Class<?> tests) {
    TreeMap<String, Method> found = new TreeMap<>();
    for (Method m : tests.getDeclaredMethods()) {
      if (m.getName().matches("(promise|rule)[0-9][0-9].*")) found.put(m.getName(), m);
    }
    for (Method m : found.values()) runOne(m);
    test = "";
    System.out.print(found.size() + " tests, ");
    finish();
  }

  private void runOne(Method m) {
    test = m.getName() + ": ";
    int before = asked;
    try {
      m.setAccessible(true);
      m.invoke(null);
    } catch (InvocationTargetException e) {
      fail("threw " + e.getCause());
    } catch (IllegalAccessException e) {
      fail("cannot be run: " + e);
    }
    if (asked == before) fail("asks nothing");
  }

  void finish() {
    System.out.println(asked + " answers, " + wrong + " not as due");
    if (wrong != 0 || asked == 0) System.exit(1);
  }
}
