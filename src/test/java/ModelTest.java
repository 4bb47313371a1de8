import java.util.ArrayList;
import java.util.List;
import java.util.Random;
import java.util.function.ToIntFunction;

/** Long runs of calls, by fixed seeds: the class answers as the slow model does. */
public final class ModelTest {
  private static final Checks CHECKS = new Checks();
  private static final int[] FAR = {Integer.MIN_VALUE, -2, -1, 20, 32, 80, 160, Integer.MAX_VALUE};

  /** For more calls an object is not meant. */
  private static final int MOST_CALLS = 512;

  private static PlaneTests object;
  private static int calls;
  private static final List<ToIntFunction<PlaneTests>> CHANGES = new ArrayList<>();
  private static Model model;
  private static Random random;
  private static String where;

  /** Other seeds can be named: the first one, and how many. */
  public static void main(String[] args) {
    int first = args.length > 1 ? Integer.parseInt(args[0]) : 0;
    int count = args.length > 1 ? Integer.parseInt(args[1]) : 120;
    for (int seed = first; seed < first + count; seed++) {
      mixedRun(seed);
      wholeRun(seed);
    }
    CHECKS.finish();
  }

  private static void begin(String kind, int seed) {
    object = new PlaneTests();
    calls = 0;
    CHANGES.clear();
    model = new Model();
    random = new Random(seed);
    where = kind + " " + seed + " ";
  }

  /** The object for one call; where it had all it is meant for, another with the same changes. */
  private static PlaneTests it() {
    if (calls == MOST_CALLS) {
      object = new PlaneTests();
      for (ToIntFunction<PlaneTests> change : CHANGES) change.applyAsInt(object);
      calls = CHANGES.size();
    }
    calls++;
    return object;
  }

  private static int change(ToIntFunction<PlaneTests> call) {
    int answer = call.applyAsInt(it());
    CHANGES.add(call);
    return answer;
  }

  /** Any calls in any order, 512 of them. */
  private static void mixedRun(int seed) {
    begin("mixed", seed);
    int nodes = 1 + random.nextInt(20);
    int eager = 1 + random.nextInt(6);
    for (int i = 0; i < MOST_CALLS; i++) {
      if (i < nodes) call(0);
      else if (random.nextInt(8) < eager - 4 * i / MOST_CALLS) call(1);
      else call(random.nextInt(25));
    }
  }

  /** One graph, and all that can be asked of it. */
  private static void wholeRun(int seed) {
    begin("whole", seed);
    int nodes = 1 + random.nextInt(seed % 4 == 0 ? 20 : 9);
    for (int i = 0; i < nodes; i++) call(0);
    grow(nodes, seed % 5);
    askAll(nodes);
    if (seed % 3 == 0) {
      for (int i = 0; i < 3; i++) call(2);
      askAll(nodes);
    }
  }

  private static void grow(int nodes, int kind) {
    int wanted = kind == 0 ? nodes : kind == 1 ? 2 * nodes : 3 * nodes;
    boolean onlyPlane = kind >= 2 && random.nextInt(4) != 0;
    for (int i = 0; i < wanted; i++) {
      int from = random.nextInt(nodes);
      int to = random.nextInt(nodes);
      int k = change(x -> x.arc(from, to));
      CHECKS.due(where + "arc(" + from + ", " + to + ")", k, model.arc(from, to));
      if (onlyPlane && k >= 0 && it().test() == 0) {
        CHECKS.due(where + "test()", 0, model.test());
        CHECKS.due(where + "cut(" + k + ")", change(x -> x.cut(k)), model.cut(k));
      }
    }
  }

  private static void askAll(int nodes) {
    for (int what : new int[] {5, 6, 8, 13, 15, 17, 23, 24}) call(what);
    for (int v = 0; v < nodes; v++) {
      for (int k = 0; k <= it().degree(v); k++) {
        CHECKS.due(where + "turn(" + v + ", " + k + ")", it().turn(v, k), model.turn(v, k));
        CHECKS.due(where + "told(" + v + ", " + k + ")", it().told(v, k), model.told(v, k));
      }
      for (int k = 0; k <= nodes; k++) {
        CHECKS.due(where + "round(" + v + ", " + k + ")", it().round(v, k), model.round(v, k));
      }
      for (int axis = 0; axis < 3; axis++) {
        CHECKS.due(where + "place(" + v + ", " + axis + ")", it().place(v, axis),
            model.place(v, axis));
      }
      CHECKS.due(where + "branch(" + v + ")", it().branch(v), model.branch(v));
    }
    for (int k = 0; k < 80; k++) {
      CHECKS.due(where + "piece(" + k + ")", it().piece(k), model.piece(k));
      CHECKS.due(where + "strand(" + k + ")", it().strand(k), model.strand(k));
      for (int i = 0; i < 3; i++) {
        CHECKS.due(where + "dual(" + k + ", " + i + ")", it().dual(k, i), model.dual(k, i));
      }
      for (int i = 0; i < 12; i++) {
        CHECKS.due(where + "face(" + k + ", " + i + ")", it().face(k, i), model.face(k, i));
      }
    }
    call(22);
    call(23);
    call(24);
  }

  private static int number(int bound) {
    if (random.nextInt(25) == 0) return FAR[random.nextInt(FAR.length)];
    return random.nextInt(bound);
  }

  private static void call(int kind) {
    int what = kind == 4 && random.nextInt(8) != 0 ? 5 : kind;
    int a = number(what == 2 || what == 19 || what == 12 ? 80 : 21);
    int b = number(what == 1 ? 20 : what == 12 || what == 14 ? 3 : 12);
    int c = number(8);
    String call = where + what + " (" + a + ", " + b + ", " + c + ")";
    switch (what) {
      case 0 -> CHECKS.due(call, change(PlaneTests::node), model.node());
      case 1 -> CHECKS.due(call, change(x -> x.arc(a, b)), model.arc(a, b));
      case 2 -> CHECKS.due(call, change(x -> x.cut(a)), model.cut(a));
      case 3 -> CHECKS.due(call, it().degree(a), model.degree(a));
      case 4 -> CHECKS.due(call, change(PlaneTests::clear), model.clear());
      case 5 -> CHECKS.due(call, it().test(), model.test());
      case 6 -> CHECKS.due(call, it().outer(), model.outer());
      case 7 -> CHECKS.due(call, it().turn(a, b), model.turn(a, b));
      case 8 -> CHECKS.due(call, it().faces(), model.faces());
      case 9 -> CHECKS.due(call, it().face(a, b), model.face(a, b));
      case 10 -> CHECKS.due(call, it().round(a, b), model.round(a, b));
      case 11 -> CHECKS.due(call, it().told(a, b), model.told(a, b));
      case 12 -> CHECKS.due(call, it().dual(a, b), model.dual(a, b));
      case 13 -> CHECKS.due(call, it().dualBack(), model.dualBack());
      case 14 -> CHECKS.due(call, it().place(a, b), model.place(a, b));
      case 15 -> CHECKS.due(call, it().crossing(), model.crossing());
      case 16 -> CHECKS.due(call, it().piece(b), model.piece(b));
      case 17 -> CHECKS.due(call, it().barred(), model.barred());
      case 18 -> CHECKS.due(call, it().branch(c), model.branch(c));
      case 19 -> CHECKS.due(call, it().strand(a), model.strand(a));
      case 20, 21 -> CHECKS.due(call, change(x -> x.swap(a, b, c)), model.swap(a, b, c));
      case 22 -> CHECKS.due(call, change(PlaneTests::take), model.take());
      case 23 -> CHECKS.due(call, it().genus(), model.genus());
      default -> CHECKS.due(call, it().toldFaces(), model.toldFaces());
    }
  }
}
