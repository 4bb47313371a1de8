import java.util.ArrayList;
import java.util.List;

/** All graphs of few nodes: what the document says of PLANE holds as it is written there. */
public final class SmallGraphsTest {
  private static final Checks CHECKS = new Checks();
  /** Graphs of 1, 2, .. nodes with numbers: how many are PLANE, and how many OUTERPLANE. */
  private static final int[] PLANE = {1, 2, 8, 64, 1023, 32071};
  private static final int[] OUTERPLANE = {1, 2, 8, 63, 893, 19714};

  public static void main(String[] args) {
    CHECKS.runAll(SmallGraphsTest.class);
  }

  private static void due(String what, long got, long want) {
    CHECKS.due(what, got, want);
  }

  /** The pairs of nodes of the graph with this number. */
  private static int[] pairs(int nodes, int number) {
    List<Integer> found = new ArrayList<>();
    int bit = 0;
    for (int v = 0; v < nodes; v++) {
      for (int w = v + 1; w < nodes; w++, bit++) {
        if ((number >>> bit & 1) == 0) continue;
        found.add(v);
        found.add(w);
      }
    }
    return found.stream().mapToInt(v -> v).toArray();
  }

  private static int graphs(int nodes) {
    return 1 << nodes * (nodes - 1) / 2;
  }

  // "Whether it is PLANE: 1 or 0."
  private static void promise06HowManyGraphsArePlane() {
    for (int n = 1; n <= PLANE.length; n++) {
      int found = 0;
      for (int g = 0; g < graphs(n); g++) found += Graphs.graph(n, pairs(n, g)).test();
      due("graphs of " + n + " nodes", found, PLANE[n - 1]);
    }
  }

  // "with one node more, and an ARC from that to each other one, it is PLANE: 1 or 0"
  private static void promise07HowManyGraphsAreOuterplane() {
    for (int n = 1; n <= OUTERPLANE.length; n++) {
      int found = 0;
      for (int g = 0; g < graphs(n); g++) found += Graphs.graph(n, pairs(n, g)).outer();
      due("graphs of " + n + " nodes", found, OUTERPLANE[n - 1]);
    }
  }

  // OUTERPLANE as it is written: with the node more told as a node.
  private static void promise07AsIfTheNodeMoreWereTold() {
    for (int g = 0; g < graphs(5); g++) {
      PlaneTests x = Graphs.graph(5, pairs(5, g));
      int outer = x.outer();
      x.node();
      for (int v = 0; v < 5; v++) x.arc(5, v);
      due("graph " + g, outer, x.test());
    }
  }

  // "A GRAPH is PLANE if there are TURNS with GENUS 0."
  private static void promise06PlaneIfThereAreTurnsOfGenusZero() {
    for (int n = 1; n <= 5; n++) {
      for (int g = 0; g < graphs(n); g++) byDefinition(n, pairs(n, g));
    }
    for (int g = 0; g < graphs(6); g++) {
      if (Integer.bitCount(g) == 9) byDefinition(6, pairs(6, g));
    }
  }

  private static void byDefinition(int nodes, int[] pairs) {
    List<List<Integer>> rows = new ArrayList<>();
    for (int v = 0; v < nodes; v++) rows.add(new ArrayList<>());
    for (int e = 0; e < pairs.length; e++) rows.get(pairs[e]).add(e);
    boolean want = someTurns(rows, 0, 1, pairs);
    due("graph " + java.util.Arrays.toString(pairs), Graphs.graph(nodes, pairs).test(),
        want ? 1 : 0);
  }

  /** Tries all orders of a row from a place on (where a row begins does not matter), then of all
   * rows behind it. */
  private static boolean someTurns(List<List<Integer>> rows, int node, int place, int[] pairs) {
    if (node == rows.size()) return twiceGenus(rows, pairs) == 0;
    List<Integer> row = rows.get(node);
    if (place >= row.size()) return someTurns(rows, node + 1, 1, pairs);
    for (int i = place; i < row.size(); i++) {
      java.util.Collections.swap(row, place, i);
      boolean found = someTurns(rows, node, place + 1, pairs);
      java.util.Collections.swap(row, place, i);
      if (found) return true;
    }
    return false;
  }

  /** 2 C - V + A - F */
  private static int twiceGenus(List<List<Integer>> rows, int[] pairs) {
    int[] behind = new int[pairs.length];
    int faces = 0;
    for (List<Integer> row : rows) {
      for (int i = 0; i < row.size(); i++) behind[row.get(i)] = row.get((i + 1) % row.size());
      if (row.isEmpty()) faces++;
    }
    boolean[] seen = new boolean[pairs.length];
    for (int first = 0; first < pairs.length; first++) {
      if (seen[first]) continue;
      faces++;
      for (int e = first; !seen[e]; e = behind[e ^ 1]) seen[e] = true;
    }
    return 2 * parts(rows.size(), pairs) - rows.size() + pairs.length / 2 - faces;
  }

  private static int parts(int nodes, int[] pairs) {
    int[] part = new int[nodes];
    for (int v = 0; v < nodes; v++) part[v] = v;
    int count = nodes;
    for (int i = 0; i < pairs.length; i += 2) {
      int from = part[pairs[i]];
      int to = part[pairs[i + 1]];
      if (from == to) continue;
      count--;
      for (int v = 0; v < nodes; v++) if (part[v] == from) part[v] = to;
    }
    return count;
  }

  // "FILLED is ..": the graph, and pairs in their order with which it is PLANE still. "ROUND is the
  // order of NEIGHBOURS of each node in FILLED, by TURNS of GENUS 0", which "are as good as one".
  private static void promise12RoundAsItIsWritten() {
    for (int n = 1; n <= 6; n++) {
      boolean[] plane = new boolean[graphs(n)];
      for (int g = 0; g < plane.length; g++) plane[g] = Graphs.graph(n, pairs(n, g)).test() == 1;
      for (int g = 0; g < plane.length; g++) {
        if (plane[g]) dueRound(n, g, filled(g, plane));
      }
    }
  }

  private static int filled(int number, boolean[] plane) {
    int found = number;
    for (int bit = 1; bit < plane.length; bit <<= 1) {
      if (plane[found | bit]) found |= bit;
    }
    return found;
  }

  private static void dueRound(int nodes, int number, int filled) {
    PlaneTests x = Graphs.graph(nodes, pairs(nodes, number));
    int[] pairs = pairs(nodes, filled);
    List<List<Integer>> rows = new ArrayList<>();
    for (int v = 0; v < nodes; v++) {
      List<Integer> row = new ArrayList<>();
      for (int k = 0; x.round(v, k) >= 0 && k < nodes; k++) row.add(x.round(v, k));
      List<Integer> ends = new ArrayList<>();
      for (int e = 0; e < pairs.length; e++) if (pairs[e] == v) ends.add(e);
      due("neighbours in graph " + number, row.size(), ends.size());
      if (row.isEmpty()) return;
      due("the first", row.get(0), java.util.Collections.min(row));
      ends.sort(java.util.Comparator.comparingInt(e -> row.indexOf(pairs[e ^ 1])));
      for (int i = 0; i < row.size() && i < ends.size(); i++) {
        due("neighbour in graph " + number, row.get(i), pairs[ends.get(i) ^ 1]);
      }
      rows.add(ends);
      if (v == 0 && row.size() > 2) {
        due("the way round", row.get(1) < row.get(row.size() - 1) ? 1 : 0, 1);
      }
    }
    due("twice the genus of graph " + number, twiceGenus(rows, pairs), 0);
  }

  // "All rows of the TURNS told become those of THE TURNS": which are TURNS of GENUS 0.
  private static void promise23TheTurnsHaveGenusZero() {
    for (int g = 0; g < graphs(6); g += 3) {
      PlaneTests x = Graphs.graph(6, pairs(6, g));
      if (x.test() == 0) continue;
      // a LOOP and an ALIKE ARC, told the other way
      x.arc(g % 6, g % 6);
      int[] first = pairs(6, g);
      if (first.length > 0) x.arc(first[1], first[0]);
      due("take of graph " + g, x.take(), 1);
      due("genus of graph " + g, x.genus(), 0);
      due("faces of graph " + g, x.faces(), x.toldFaces());
    }
  }

  // "Whether two ARCS .. have a point in common in THE DRAWING": none have, and no two nodes.
  private static void promise15NoTwoNodesHaveOnePlace() {
    for (int g = 0; g < graphs(6); g += 3) {
      PlaneTests x = Graphs.graph(6, pairs(6, g));
      if (x.test() == 0) continue;
      java.util.Set<Integer> seen = new java.util.HashSet<>();
      for (int v = 0; v < 6; v++) {
        int across = x.place(v, 0);
        int up = x.place(v, 1);
        seen.add(100 * across + up);
        due("in the grid", across >= 0 && up >= 0 && across + up <= 7 ? 1 : 0, 1);
      }
      due("places of graph " + g, seen.size(), 6);
      due("crossing of graph " + g, x.crossing(), 0);
    }
  }

  // "THE PIECE": each of its ARCS is needed, and without the others it is not PLANE.
  private static void promise17ThePieceIsJustBarred() {
    int found = 0;
    for (int g = 0; g < graphs(6); g++) {
      int[] pairs = pairs(6, g);
      PlaneTests x = Graphs.graph(6, pairs);
      if (x.test() == 1) continue;
      found++;
      List<Integer> piece = new ArrayList<>();
      for (int k = 0; x.piece(k) >= 0; k++) piece.add(x.piece(k));
      PlaneTests y = Graphs.graph(6, pairs);
      for (int k = 0; k < pairs.length / 2; k++) if (!piece.contains(k)) y.cut(k);
      due("the piece alone", y.test(), 0);
      for (int k : piece) {
        y.cut(k);
        due("less one", y.test(), 1);
        y.arc(pairs[2 * k], pairs[2 * k + 1]);
      }
      due("five or six", x.barred(), x.branch(5) < 0 ? 5 : 6);
    }
    due("graphs that are not plane", found, graphs(6) - PLANE[5]);
  }
}
