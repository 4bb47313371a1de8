import java.util.ArrayList;
import java.util.List;
import java.util.function.Consumer;
import java.util.function.Supplier;

/**
 * "REFUSALS change nothing and answer, the first that fits": each call of the document's face is
 * refused in all ways it can be, in graphs of several kinds; behind that the object answers all
 * that an object answers which was never refused anything.
 */
public final class RefusalsTest {
  private static final Checks CHECKS = new Checks();
  private static final int PARTS = 7;
  private static final List<Supplier<PlaneTests>> PLANE = new ArrayList<>();
  private static final List<Supplier<PlaneTests>> NOT_PLANE = new ArrayList<>();

  public static void main(String[] args) {
    PLANE.add(RefusalsTest::triangle);
    PLANE.add(RefusalsTest::twoParts);
    PLANE.add(RefusalsTest::fullAndPlane);
    NOT_PLANE.add(RefusalsTest::fiveAndMore);
    NOT_PLANE.add(RefusalsTest::fullAndNotPlane);
    CHECKS.runAll(RefusalsTest.class);
  }

  private static void due(String what, long got, long want) {
    CHECKS.due(what, got, want);
  }

  // ---- graphs: all have node 0 with two ENDS or more, and ARC 1, but none has node 20 or ARC 0

  private static PlaneTests triangle() {
    PlaneTests x = Graphs.graph(3, 1, 1, 0, 1, 1, 2, 2, 0);
    x.cut(0);
    x.swap(0, 0, 1);
    return x;
  }

  private static PlaneTests twoParts() {
    PlaneTests x = Graphs.graph(6, 5, 5, 0, 0, 0, 4, 4, 0, 1, 3, 3, 3, 5, 1);
    x.cut(0);
    x.swap(0, 0, 2);
    x.swap(3, 1, 2);
    return x;
  }

  /** Twenty nodes and eighty ARCS, those that were cut counted. */
  private static PlaneTests fullAndPlane() {
    PlaneTests x = Graphs.graph(20, Graphs.fullPlane(20));
    for (int k = 54; k < 80; k++) x.arc(k % 19, k % 19 + (k % 3 == 0 ? 0 : 1));
    x.cut(0);
    for (int k = 70; k < 80; k++) if (k % 2 == 0) x.cut(k);
    x.take();
    x.swap(0, 0, 3);
    x.swap(19, 0, 1);
    return x;
  }

  private static PlaneTests fiveAndMore() {
    PlaneTests x = Graphs.graph(7, 6, 6, 0, 1, 0, 2, 0, 3, 0, 4, 1, 2, 1, 3, 1, 4, 2, 3, 2, 4, 3, 5,
        5, 4, 1, 0, 5, 0);
    x.cut(0);
    x.swap(0, 1, 4);
    return x;
  }

  private static PlaneTests fullAndNotPlane() {
    PlaneTests x = Graphs.graph(20);
    for (int k = 0; k < 80; k++) x.arc(k % 20, (k + 1 + k / 20 * 4) % 20);
    x.cut(0);
    x.cut(33);
    x.swap(0, 0, 3);
    return x;
  }

  // ---- all that can be asked, in parts that stay well below 512 calls

  private static String part(PlaneTests x, int part) {
    StringBuilder text = new StringBuilder();
    switch (part) {
      case 0 -> wholes(x, text);
      case 1 -> rows(x, text, true);
      case 2 -> rows(x, text, false);
      case 3 -> faces(x, text);
      case 4 -> places(x, text);
      case 5 -> arcs(x, text);
      default -> changes(x, text);
    }
    return text.toString();
  }

  private static void tell(StringBuilder text, int answer) {
    text.append(answer).append(' ');
  }

  private static void wholes(PlaneTests x, StringBuilder text) {
    tell(text, x.test());
    tell(text, x.outer());
    tell(text, x.faces());
    tell(text, x.dualBack());
    tell(text, x.crossing());
    tell(text, x.barred());
    tell(text, x.genus());
    tell(text, x.toldFaces());
    for (int k = 0; k < 26; k++) tell(text, x.piece(k));
    for (int k = 0; k < 7; k++) tell(text, x.branch(k));
    for (int k = 0; k <= 80; k++) tell(text, x.strand(k));
  }

  private static void rows(PlaneTests x, StringBuilder text, boolean told) {
    for (int v = 0; v <= 20; v++) {
      int degree = x.degree(v);
      tell(text, degree);
      for (int k = 0; k <= degree; k++) tell(text, told ? x.told(v, k) : x.turn(v, k));
    }
  }

  private static void faces(PlaneTests x, StringBuilder text) {
    int count = x.faces();
    tell(text, count);
    for (int k = 0; k <= count; k++) {
      int answer = 0;
      for (int i = 0; answer >= 0; i++) {
        answer = x.face(k, i);
        tell(text, answer);
      }
    }
  }

  private static void places(PlaneTests x, StringBuilder text) {
    for (int v = 0; v <= 20; v++) {
      tell(text, x.place(v, 0));
      tell(text, x.place(v, 1));
      int answer = 0;
      for (int k = 0; answer >= 0; k++) {
        answer = x.round(v, k);
        tell(text, answer);
      }
    }
  }

  private static void arcs(PlaneTests x, StringBuilder text) {
    for (int k = 0; k <= 80; k++) {
      tell(text, x.dual(k, 0));
      tell(text, x.dual(k, 1));
    }
  }

  /** Changes tell which numbers come next, and what has room. */
  private static void changes(PlaneTests x, StringBuilder text) {
    tell(text, x.node());
    tell(text, x.arc(0, 0));
    tell(text, x.told(0, x.degree(0) - 1));
    for (int k = 0; k <= 80; k++) tell(text, x.cut(k));
    tell(text, x.arc(0, 0));
    tell(text, x.node());
    tell(text, x.clear());
    tell(text, x.node());
  }

  /** Refused calls ahead of all questions, and again behind some that make the object remember. */
  private static void unchanged(Supplier<PlaneTests> maker, Consumer<PlaneTests> refused) {
    for (int part = 0; part < PARTS; part++) {
      String want = part(maker.get(), part);
      PlaneTests x = maker.get();
      refused.accept(x);
      CHECKS.due("part " + part, part(x, part), want);
      PlaneTests y = maker.get();
      remember(y);
      refused.accept(y);
      CHECKS.due("part " + part + " of one that was asked", part(y, part), want);
    }
  }

  private static void remember(PlaneTests x) {
    x.outer();
    x.barred();
    x.dualBack();
    x.crossing();
    x.face(0, 0);
    x.genus();
  }

  private static void everywhere(Consumer<PlaneTests> refused) {
    for (Supplier<PlaneTests> maker : PLANE) unchanged(maker, refused);
    for (Supplier<PlaneTests> maker : NOT_PLANE) unchanged(maker, refused);
  }

  private static void wherePlane(Consumer<PlaneTests> refused) {
    for (Supplier<PlaneTests> maker : PLANE) unchanged(maker, refused);
  }

  private static void whereNotPlane(Consumer<PlaneTests> refused) {
    for (Supplier<PlaneTests> maker : NOT_PLANE) unchanged(maker, refused);
  }

  // ---- each call, refused

  private static void promise02NodeRefused() {
    Consumer<PlaneTests> refused = x -> {
      due("no room", x.node(), -4);
      due("no room again", x.node(), -4);
    };
    unchanged(RefusalsTest::fullAndPlane, refused);
    unchanged(RefusalsTest::fullAndNotPlane, refused);
  }

  private static void promise03ArcRefusedForItsNodes() {
    everywhere(x -> {
      due("from 20", x.arc(20, 0), -1);
      due("to 20", x.arc(0, 20), -1);
      due("neither", x.arc(-1, 20), -1);
      for (int bad : Graphs.FAR) {
        due("from " + bad, x.arc(bad, 0), -1);
        due("to " + bad, x.arc(0, bad), -1);
      }
    });
  }

  private static void promise03ArcRefusedForRoom() {
    Consumer<PlaneTests> refused = x -> {
      due("no room", x.arc(0, 1), -4);
      due("no room for a loop", x.arc(19, 19), -4);
      due("no such node is ahead of that", x.arc(0, 20), -1);
    };
    unchanged(RefusalsTest::fullAndPlane, refused);
    unchanged(RefusalsTest::fullAndNotPlane, refused);
  }

  private static void promise04CutRefused() {
    everywhere(x -> {
      due("cut before", x.cut(0), -1);
      due("80", x.cut(80), -1);
      for (int bad : Graphs.FAR) due("far off", x.cut(bad), -1);
    });
  }

  private static void promise08DegreeRefused() {
    everywhere(x -> {
      due("20", x.degree(20), -1);
      for (int bad : Graphs.FAR) due("far off", x.degree(bad), -1);
    });
  }

  private static void promise09TurnRefused() {
    Consumer<PlaneTests> anywhere = x -> {
      for (int bad : Graphs.FAR) due("node", x.turn(bad, 0), -1);
      for (int bad : Graphs.FAR) due("node and place", x.turn(bad, bad), -1);
      due("node 20", x.turn(20, 0), -1);
    };
    everywhere(anywhere);
    wherePlane(x -> {
      due("behind the row", x.turn(0, x.degree(0)), -1);
      for (int bad : Graphs.FAR) due("place", x.turn(0, bad), -1);
    });
    whereNotPlane(x -> {
      due("not plane", x.turn(0, 0), -3);
      for (int bad : Graphs.FAR) due("not plane is ahead of the place", x.turn(0, bad), -3);
    });
  }

  private static void promise10FacesRefused() {
    whereNotPlane(x -> due("not plane", x.faces(), -3));
  }

  private static void promise11FaceRefused() {
    wherePlane(x -> {
      due("behind the last", x.face(x.faces(), 0), -1);
      for (int bad : Graphs.FAR) {
        due("face", x.face(bad, 0), -1);
        due("place", x.face(0, bad), -1);
      }
    });
    whereNotPlane(x -> {
      due("not plane", x.face(0, 0), -3);
      for (int bad : Graphs.FAR) due("not plane is ahead of the rest", x.face(bad, bad), -3);
    });
  }

  private static void promise12RoundRefused() {
    everywhere(x -> {
      due("node 20", x.round(20, 0), -1);
      for (int bad : Graphs.FAR) due("node and place", x.round(bad, bad), -1);
    });
    wherePlane(x -> {
      for (int bad : Graphs.FAR) due("place", x.round(0, bad), -1);
      due("place 19", x.round(2, 19), -1);
    });
    whereNotPlane(x -> {
      due("not plane", x.round(0, 0), -3);
      for (int bad : Graphs.FAR) due("not plane is ahead of the place", x.round(0, bad), -3);
    });
  }

  private static void promise13DualRefused() {
    everywhere(x -> {
      due("cut before", x.dual(0, 0), -1);
      due("cut before, another what", x.dual(0, 2), -1);
      for (int bad : Graphs.FAR) due("arc and what", x.dual(bad, bad), -1);
      due("what 2", x.dual(1, 2), -2);
      for (int bad : Graphs.FAR) due("what", x.dual(1, bad), -2);
    });
    whereNotPlane(x -> due("not plane", x.dual(1, 0), -3));
    unchanged(RefusalsTest::twoParts, x -> due("not connected", x.dual(1, 1), -3));
  }

  private static void promise14DualBackRefused() {
    whereNotPlane(x -> due("not plane", x.dualBack(), -3));
    unchanged(RefusalsTest::twoParts, x -> due("not connected", x.dualBack(), -3));
  }

  private static void promise15PlaceRefused() {
    everywhere(x -> {
      due("node 20", x.place(20, 0), -1);
      for (int bad : Graphs.FAR) due("node and axis", x.place(bad, bad), -1);
      due("axis 2", x.place(0, 2), -2);
      for (int bad : Graphs.FAR) due("axis", x.place(0, bad), -2);
    });
    whereNotPlane(x -> due("not plane", x.place(0, 0), -3));
  }

  private static void promise16CrossingRefused() {
    whereNotPlane(x -> due("not plane", x.crossing(), -3));
  }

  private static void promise17PieceRefused() {
    wherePlane(x -> {
      due("plane", x.piece(0), -3);
      for (int bad : Graphs.FAR) due("plane is ahead of the place", x.piece(bad), -3);
    });
    whereNotPlane(x -> {
      for (int bad : Graphs.FAR) due("place", x.piece(bad), -1);
      due("place 26", x.piece(26), -1);
    });
  }

  private static void promise19BranchRefused() {
    wherePlane(x -> {
      due("plane", x.branch(0), -3);
      for (int bad : Graphs.FAR) due("plane is ahead of the place", x.branch(bad), -3);
    });
    whereNotPlane(x -> {
      for (int bad : Graphs.FAR) due("place", x.branch(bad), -1);
      due("place 6", x.branch(6), -1);
    });
  }

  private static void promise20StrandRefused() {
    everywhere(x -> {
      due("cut before", x.strand(0), -1);
      due("80", x.strand(80), -1);
      for (int bad : Graphs.FAR) due("far off", x.strand(bad), -1);
    });
    wherePlane(x -> due("plane", x.strand(1), -3));
    unchanged(RefusalsTest::fiveAndMore, x -> {
      due("alike", x.strand(12), -3);
      due("not in the piece", x.strand(13), -3);
    });
  }

  private static void promise21ToldRefused() {
    everywhere(x -> {
      due("node 20", x.told(20, 0), -1);
      due("behind the row", x.told(0, x.degree(0)), -1);
      for (int bad : Graphs.FAR) {
        due("node", x.told(bad, 0), -1);
        due("place", x.told(0, bad), -1);
      }
    });
  }

  private static void promise22SwapRefused() {
    everywhere(x -> {
      due("node 20", x.swap(20, 0, 1), -1);
      due("i behind the row", x.swap(0, x.degree(0), 0), -1);
      due("j behind the row", x.swap(0, 0, x.degree(0)), -1);
      for (int bad : Graphs.FAR) {
        due("node", x.swap(bad, 0, 1), -1);
        due("i", x.swap(0, bad, 1), -1);
        due("j", x.swap(0, 0, bad), -1);
      }
    });
  }

  private static void promise23TakeRefused() {
    whereNotPlane(x -> due("not plane", x.take(), -3));
  }

  // ---- questions

  // What "is" the answer to a question does not change the graph either.
  private static void promise06QuestionsChangeNothing() {
    everywhere(x -> {
      int nodes = 0;
      for (; nodes < 20 && x.degree(nodes) >= 0; nodes++) x.told(nodes, 0);
      remember(x);
      x.test();
      x.faces();
      x.toldFaces();
      for (int v = 0; v < nodes; v++) {
        x.turn(v, 0);
        x.round(v, 1);
        x.place(v, 1);
      }
      for (int k = 0; k < 6; k++) {
        x.dual(k, k % 2);
        x.strand(k);
        x.piece(k);
        x.branch(k);
      }
      due("degree", x.degree(nodes), -1);
    });
  }
}
