/** Graphs that tests ask about, and numbers that are none. */
final class Graphs {
  static final int[] K4 = {0, 1, 0, 2, 0, 3, 1, 2, 1, 3, 2, 3};
  static final int[] K5 = {0, 1, 0, 2, 0, 3, 0, 4, 1, 2, 1, 3, 1, 4, 2, 3, 2, 4, 3, 4};
  static final int[] K33 = {0, 3, 0, 4, 0, 5, 1, 3, 1, 4, 1, 5, 2, 3, 2, 4, 2, 5};
  static final int[] K23 = {0, 2, 0, 3, 0, 4, 1, 2, 1, 3, 1, 4};
  static final int[] TRIANGLE = {0, 1, 1, 2, 2, 0};

  /** Far outside of every range. */
  static final int[] FAR = {Integer.MIN_VALUE, -1000, -2, -1, 160, 1000, Integer.MAX_VALUE};

  private Graphs() {}

  /** Some nodes, and arcs by pairs of nodes. */
  static PlaneTests graph(int nodes, int... pairs) {
    PlaneTests x = new PlaneTests();
    for (int v = 0; v < nodes; v++) x.node();
    arcs(x, 0, pairs);
    return x;
  }

  /** Arcs more, each node's number greater by a shift. */
  static void arcs(PlaneTests x, int shift, int... pairs) {
    for (int i = 0; i < pairs.length; i += 2) x.arc(shift + pairs[i], shift + pairs[i + 1]);
  }

  /** As many alike arcs. */
  static void alike(PlaneTests x, int from, int to, int count) {
    for (int i = 0; i < count; i++) x.arc(from, to);
  }

  /** A way over all nodes: node v is joined with v + 1 by arc v. */
  static int[] path(int nodes) {
    int[] pairs = new int[2 * nodes - 2];
    for (int v = 0; v + 1 < nodes; v++) {
      pairs[2 * v] = v;
      pairs[2 * v + 1] = v + 1;
    }
    return pairs;
  }

  /** A round over all nodes: arc v leads from v to v + 1, the last one to 0. */
  static int[] cycle(int nodes) {
    int[] pairs = new int[2 * nodes];
    for (int v = 0; v < nodes; v++) {
      pairs[2 * v] = v;
      pairs[2 * v + 1] = (v + 1) % nodes;
    }
    return pairs;
  }

  /** As many arcs as a PLANE graph can have: 0 and 1 joined with all, the others in a path. */
  static int[] fullPlane(int nodes) {
    int[] pairs = new int[2 * (3 * nodes - 6)];
    int i = 0;
    for (int v = 1; v < nodes; v++) i = put(pairs, i, 0, v);
    for (int v = 2; v < nodes; v++) i = put(pairs, i, 1, v);
    for (int v = 2; v + 1 < nodes; v++) i = put(pairs, i, v, v + 1);
    return pairs;
  }

  private static int put(int[] pairs, int i, int from, int to) {
    pairs[i] = from;
    pairs[i + 1] = to;
    return i + 2;
  }
}
