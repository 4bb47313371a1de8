/**
 * Promises 9 to 16 at their edges: each test is of one sentence of the document, which stands above
 * it.
 */
public final class PlaneEdgesTest {
  private static final Checks CHECKS = new Checks();
  /** Three pairs that are not joined: 0 and 4, 1 and 3, 2 and 5. */
  private static final int[] OCTAHEDRON = {0, 1, 0, 2, 1, 2, 2, 3, 2, 4, 3, 4, 0, 3, 4, 1, 5, 0, 5,
    3, 5, 4, 5, 1};
  /** All are joined but 0 and 1. */
  private static final int[] K5_LESS_THE_FIRST = {0, 2, 0, 3, 0, 4, 1, 2, 1, 3, 1, 4, 2, 3, 2, 4,
    3, 4};

  public static void main(String[] args) {
    CHECKS.runAll(PlaneEdgesTest.class);
  }

  private static void due(String what, long got, long want) {
    CHECKS.due(what, got, want);
  }

  private static void dueTurns(PlaneTests x, int node, int... want) {
    CHECKS.dueRow("turn of " + node, k -> x.turn(node, k), want);
  }

  private static void dueFace(PlaneTests x, int face, int... want) {
    CHECKS.dueRow("face " + face, i -> x.face(face, i), want);
  }

  private static void dueRound(PlaneTests x, int node, int... want) {
    CHECKS.dueRow("round of " + node, k -> x.round(node, k), want);
  }

  private static void duePlace(PlaneTests x, int node, int wantX, int wantY) {
    due("x of " + node, x.place(node, 0), wantX);
    due("y of " + node, x.place(node, 1), wantY);
  }

  /** One node with all ARCS there can be. */
  private static PlaneTests eightyLoops() {
    PlaneTests x = Graphs.graph(1);
    Graphs.alike(x, 0, 0, 80);
    return x;
  }

  // ---- 9: turn

  // "-1 no such place": behind the last END, ahead of the first, far off.
  private static void promise09NoSuchPlace() {
    PlaneTests x = Graphs.graph(3, 0, 1, 0, 2);
    dueTurns(x, 0, 0, 2);
    dueTurns(x, 1, 1);
    dueTurns(x, 2, 3);
    for (int bad : Graphs.FAR) due("place " + bad, x.turn(0, bad), -1);
  }

  // "-1 no such place": a node without ENDS has none.
  private static void promise09ANodeWithoutEndsHasNoPlace() {
    PlaneTests x = Graphs.graph(3, 0, 1);
    dueTurns(x, 2);
    x.cut(0);
    dueTurns(x, 0);
    dueTurns(Graphs.graph(1), 0);
  }

  // "-1 no such place": the longest row has 160.
  private static void promise09TheLongestRow() {
    PlaneTests x = eightyLoops();
    for (int e = 0; e < 160; e++) due("turn", x.turn(0, e), e);
    due("behind the row", x.turn(0, 160), -1);
  }

  // "-1 there is no such node"
  private static void promise09NoSuchNode() {
    PlaneTests x = Graphs.graph(3, Graphs.TRIANGLE);
    due("node 3", x.turn(3, 0), -1);
    for (int bad : Graphs.FAR) due("node " + bad, x.turn(bad, 0), -1);
    due("without nodes", new PlaneTests().turn(0, 0), -1);
    due("node 20", Graphs.graph(20, 19, 19).turn(20, 0), -1);
    due("node 19", Graphs.graph(20, 19, 19).turn(19, 1), 1);
  }

  // "-1 there is no such node, -3 it is not PLANE, -1 no such place": in this order.
  private static void promise09WhichRefusalIsFirst() {
    PlaneTests x = Graphs.graph(5, Graphs.K5);
    due("no such node, not plane", x.turn(5, 0), -1);
    due("no such node, not plane, no such place", x.turn(-1, -1), -1);
    due("not plane", x.turn(0, 0), -3);
    due("not plane, behind the row", x.turn(0, 4), -3);
    due("not plane, ahead of the row", x.turn(0, -1), -3);
    x.cut(0);
    due("plane, behind the row", x.turn(0, 3), -1);
    due("plane, no such node, no such place", x.turn(5, 3), -1);
  }

  // "for each NEIGHBOUR the ENDS of ALIKE ARCS, by numbers rising at the lesser node, falling at
  // the greater one": told either way, as many as there can be.
  private static void promise09AlikeArcsRiseAndFall() {
    PlaneTests x = Graphs.graph(2);
    for (int k = 0; k < 80; k++) x.arc(k % 2, 1 - k % 2);
    for (int k = 0; k < 80; k++) {
      due("at the lesser", x.turn(0, k), 2 * k + k % 2);
      due("at the greater", x.turn(1, 79 - k), 2 * k + 1 - k % 2);
    }
    due("behind the row", x.turn(0, 80), -1);
    due("behind the row", x.turn(1, 80), -1);
  }

  // "ALIKE ARCS, by numbers": those that were cut are left out.
  private static void promise09AlikeArcsThatWereCut() {
    PlaneTests x = Graphs.graph(2);
    Graphs.alike(x, 1, 0, 5);
    x.cut(2);
    x.cut(4);
    dueTurns(x, 0, 1, 3, 7);
    dueTurns(x, 1, 6, 2, 0);
  }

  // "behind all the LOOPS, by numbers, of each its two ENDS": also those with the least numbers.
  private static void promise09LoopsAreBehindAll() {
    PlaneTests x = Graphs.graph(3, 0, 0, 1, 0, 0, 0, 0, 2, 2, 2);
    dueTurns(x, 0, 3, 6, 0, 1, 4, 5);
    dueTurns(x, 1, 2);
    dueTurns(x, 2, 7, 8, 9);
    x.cut(0);
    dueTurns(x, 0, 3, 6, 4, 5);
  }

  // "its NEIGHBOURS as in ROUND, from the least one on, those that no ARC joins left out"
  private static void promise09NeighboursThatNoArcJoins() {
    // ROUND of six nodes without ARCS: of 0 it is 1 4 2 3 5, of 3 it is 0 2 1 5
    PlaneTests x = Graphs.graph(6, 0, 3, 0, 2, 0, 4, 3, 5, 3, 1);
    dueTurns(x, 0, 4, 2, 0);
    dueTurns(x, 3, 1, 8, 6);
    dueTurns(x, 5, 7);
  }

  // "from the least one on": the least NEIGHBOUR in ROUND, though no ARC joins it.
  private static void promise09FromTheLeastOfRoundOn() {
    // ROUND of 2 is 0 4 1 3: from 0 on 4 is first, though 1 is less
    PlaneTests x = Graphs.graph(6, 2, 1, 2, 3, 2, 4);
    dueTurns(x, 2, 4, 0, 2);
  }

  // "a number does not come again": ENDS keep their numbers, however many ARCS were cut.
  private static void promise09TheLastArcsBehindManyCuts() {
    PlaneTests x = Graphs.graph(2);
    Graphs.alike(x, 0, 1, 76);
    Graphs.arcs(x, 0, 0, 0, 1, 0, 1, 1, 0, 1);
    for (int k = 0; k < 76; k++) x.cut(k);
    dueTurns(x, 0, 155, 158, 152, 153);
    dueTurns(x, 1, 159, 154, 156, 157);
  }

  // "TURNS told" are others than THE TURNS.
  private static void promise09ToldTurnsMatterNot() {
    PlaneTests x = Graphs.graph(4, Graphs.K4);
    x.swap(0, 0, 1);
    x.swap(1, 1, 2);
    dueTurns(x, 0, 0, 2, 4);
    dueTurns(x, 1, 1, 8, 6);
  }

  // ---- 10: faces

  // "behind all of them a FACE without ENDS for each node without ARCS"
  private static void promise10NodesWithoutArcs() {
    for (int n = 0; n <= 20; n++) due(n + " nodes", Graphs.graph(n).faces(), n);
    due("an arc and two nodes", Graphs.graph(4, 0, 2).faces(), 3);
    due("a loop and two nodes", Graphs.graph(3, 1, 1).faces(), 4);
    PlaneTests x = Graphs.graph(2, 0, 1);
    due("an arc", x.faces(), 1);
    x.cut(0);
    due("the arc was cut", x.faces(), 2);
  }

  // "How many FACES there are.": as many as there can be.
  private static void promise10TheMostFaces() {
    PlaneTests x = eightyLoops();
    due("eighty loops", x.faces(), 81);
    for (int v = 1; v < 20; v++) x.node();
    due("and nineteen nodes", x.faces(), 100);
    PlaneTests two = Graphs.graph(2);
    Graphs.alike(two, 1, 0, 80);
    due("eighty alike", two.faces(), 80);
    due("full", Graphs.graph(20, Graphs.fullPlane(20)).faces(), 36);
  }

  // "FACES by TURNS: the rounds that ENDS make": each connected part has its own.
  private static void promise10EachPartHasItsFaces() {
    PlaneTests x = Graphs.graph(6, Graphs.TRIANGLE);
    due("a triangle and three nodes", x.faces(), 5);
    Graphs.arcs(x, 3, Graphs.TRIANGLE);
    due("two triangles", x.faces(), 4);
    x.arc(0, 3);
    due("joined", x.faces(), 3);
  }

  // "-3 it is not PLANE"
  private static void promise10NotPlane() {
    due("five", Graphs.graph(5, Graphs.K5).faces(), -3);
    due("six", Graphs.graph(6, Graphs.K33).faces(), -3);
    PlaneTests x = Graphs.graph(20);
    Graphs.arcs(x, 15, Graphs.K5);
    due("the last five", x.faces(), -3);
    x.cut(4);
    due("less one", x.faces(), 15 + 6);
  }

  // ---- 11: face

  // "each as a row that begins with its least END, numbered by these from 0 on"
  private static void promise11FacesBeginWithTheirLeastEnds() {
    PlaneTests x = Graphs.graph(3, 1, 0, 2, 1, 0, 2);
    dueFace(x, 0, 0, 4, 2);
    dueFace(x, 1, 1, 3, 5);
    x.cut(0);
    x.arc(0, 1);
    // arc 3 stands for arc 0: 2 and 3 are the least ENDS now
    dueFace(x, 0, 2, 7, 4);
    dueFace(x, 1, 3, 5, 6);
  }

  // "(behind the last one the first)": rows of one END, and the longest round.
  private static void promise11BehindTheLastEndTheFirst() {
    PlaneTests one = Graphs.graph(2, 1, 0);
    due("faces", one.faces(), 1);
    dueFace(one, 0, 0, 1);
    PlaneTests x = Graphs.graph(20, Graphs.path(20));
    Graphs.alike(x, 19, 19, 61);
    due("faces", x.faces(), 62);
    int[] around = new int[99];
    for (int i = 0; i < 80; i++) around[i] = 2 * i;
    for (int i = 80; i < 99; i++) around[i] = 37 - 2 * (i - 80);
    dueFace(x, 0, around);
    for (int k = 1; k < 62; k++) due("in a loop", x.face(k, 0), 37 + 2 * k);
    due("behind the last face", x.face(62, 0), -1);
  }

  // "behind all of them a FACE without ENDS for each node without ARCS": no place in these.
  private static void promise11FacesWithoutEnds() {
    PlaneTests x = Graphs.graph(4, 3, 3);
    due("faces", x.faces(), 5);
    dueFace(x, 0, 0);
    dueFace(x, 1, 1);
    for (int k = 2; k < 5; k++) dueFace(x, k);
    due("no more", x.face(5, 0), -1);
    dueFace(Graphs.graph(1), 0);
  }

  // "-1 no such FACE, place"
  private static void promise11NoSuchFaceOrPlace() {
    PlaneTests x = Graphs.graph(3, Graphs.TRIANGLE);
    due("face 2", x.face(2, 0), -1);
    due("face -1", x.face(-1, 0), -1);
    due("place 3", x.face(0, 3), -1);
    due("place -1", x.face(1, -1), -1);
    for (int bad : Graphs.FAR) {
      due("face " + bad, x.face(bad, 0), -1);
      due("place " + bad, x.face(0, bad), -1);
      due("both " + bad, x.face(bad, bad), -1);
    }
    due("the last place", x.face(1, 2), 3);
    due("without nodes", new PlaneTests().face(0, 0), -1);
  }

  // "-1 no such FACE": the last of as many as there can be.
  private static void promise11TheLastFace() {
    PlaneTests x = eightyLoops();
    dueFace(x, 80, 159);
    due("face 81", x.face(81, 0), -1);
    PlaneTests two = Graphs.graph(2);
    Graphs.alike(two, 0, 1, 80);
    // between arcs k and k + 1: END 2 k + 1 at node 1, then 2 k + 2 at node 0
    dueFace(two, 0, 0, 159);
    for (int k = 1; k < 80; k++) due("face " + k, two.face(k, 0), 2 * k - 1);
    due("face 80", two.face(80, 0), -1);
  }

  // "-3 it is not PLANE, -1 no such FACE, place": in this order.
  private static void promise11WhichRefusalIsFirst() {
    PlaneTests x = Graphs.graph(5, Graphs.K5);
    due("not plane", x.face(0, 0), -3);
    due("not plane, no such face", x.face(1000, 0), -3);
    due("not plane, no such face or place", x.face(-1, -1), -3);
  }

  // ---- 12: round

  // "FILLED is a PLANE GRAPH ..": graphs of one, two, three and four nodes.
  private static void promise12FewNodes() {
    dueRound(Graphs.graph(1), 0);
    dueRound(Graphs.graph(2), 0, 1);
    dueRound(Graphs.graph(2), 1, 0);
    PlaneTests three = Graphs.graph(3);
    dueRound(three, 0, 1, 2);
    dueRound(three, 1, 0, 2);
    dueRound(three, 2, 0, 1);
    PlaneTests four = Graphs.graph(4);
    dueRound(four, 0, 1, 2, 3);
    dueRound(four, 1, 0, 3, 2);
    dueRound(four, 2, 0, 1, 3);
    dueRound(four, 3, 0, 2, 1);
  }

  // "for nodes 0 and 1, 0 and 2, .., 1 and 2, and so on, one ARC more where none joins the two and
  // with which it is PLANE still"
  private static void promise12NodesWithoutArcs() {
    PlaneTests x = Graphs.graph(6);
    dueRound(x, 0, 1, 4, 2, 3, 5);
    dueRound(x, 1, 0, 5, 3, 2, 4);
    dueRound(x, 2, 0, 4, 1, 3);
    dueRound(x, 3, 0, 2, 1, 5);
    dueRound(x, 4, 0, 1, 2);
    dueRound(x, 5, 0, 3, 1);
  }

  // "(20 at most)": twenty nodes without ARCS, 0 and 1 with all, the others in one path.
  private static void promise12TwentyNodes() {
    PlaneTests x = Graphs.graph(20);
    dueRound(x, 0, 1, 18, 16, 14, 12, 10, 8, 6, 4, 2, 3, 5, 7, 9, 11, 13, 15, 17, 19);
    dueRound(x, 19, 0, 17, 1);
    dueRound(x, 18, 0, 1, 16);
    due("no node 20", x.round(20, 0), -1);
  }

  // "NEIGHBOURS are other nodes that an ARC joins", "without LOOPS, of ALIKE ones one"
  private static void promise12LoopsAndAlikeArcsMatterNot() {
    PlaneTests x = Graphs.graph(4);
    for (int k = 0; k < 80; k++) x.arc(k % 4, k / 4 % 4);
    dueRound(x, 0, 1, 2, 3);
    dueRound(x, 3, 0, 2, 1);
    PlaneTests one = eightyLoops();
    dueRound(one, 0);
  }

  // "of the two ways round the one by which, at node 0, the NEIGHBOUR behind the least one is less
  // than the one before it"
  private static void promise12TheWayRoundAtNodeZero() {
    PlaneTests x = Graphs.graph(5, 0, 1, 0, 2, 0, 3, 0, 4, 1, 4, 4, 2, 2, 3, 3, 1);
    dueRound(x, 0, 1, 3, 2, 4);
    PlaneTests y = Graphs.graph(5, 0, 1, 0, 2, 0, 3, 0, 4, 1, 2, 2, 4, 4, 3, 3, 1);
    dueRound(y, 0, 1, 2, 4, 3);
    PlaneTests z = Graphs.graph(5, K5_LESS_THE_FIRST);
    dueRound(z, 0, 2, 3, 4);
    dueRound(z, 1, 2, 4, 3);
    dueRound(z, 2, 0, 4, 1, 3);
  }

  // "(With three or more nodes all its FACES have three ENDS then ..)": those that follow one
  // another in a row are NEIGHBOURS themselves.
  private static void promise12FacesOfFilledHaveThreeEnds() {
    for (int n = 3; n <= 20; n++) {
      threeEnds(n, Graphs.graph(n));
      threeEnds(n, Graphs.graph(n, Graphs.path(n)));
      threeEnds(n, Graphs.graph(n, Graphs.cycle(n)));
      threeEnds(n, Graphs.graph(n, Graphs.fullPlane(n)));
    }
  }

  private static void threeEnds(int nodes, PlaneTests x) {
    int[][] rows = new int[nodes][20];
    int[] sizes = new int[nodes];
    int all = 0;
    for (int v = 0; v < nodes; v++) {
      for (int w = x.round(v, 0); w >= 0 && sizes[v] < 20; w = x.round(v, sizes[v])) {
        rows[v][sizes[v]++] = w;
        all++;
      }
    }
    due("neighbours of " + nodes + " nodes", all, 6 * nodes - 12);
    for (int v = 0; v < nodes; v++) {
      for (int k = 0; k < sizes[v]; k++) {
        int w = rows[v][k];
        int third = rows[v][(k + 1) % sizes[v]];
        boolean found = false;
        for (int i = 0; i < sizes[w]; i++) {
          found |= rows[w][i] == third && rows[w][(i + 1) % sizes[w]] == v;
        }
        due("three in a round at " + v, found ? 1 : 0, 1);
      }
    }
  }

  // "-1 no such place", "from the least one on"
  private static void promise12NoSuchPlace() {
    PlaneTests x = Graphs.graph(6, OCTAHEDRON);
    dueRound(x, 0, 1, 2, 3, 5);
    dueRound(x, 5, 0, 3, 4, 1);
    for (int bad : Graphs.FAR) due("place " + bad, x.round(0, bad), -1);
  }

  // "-1 there is no such node"
  private static void promise12NoSuchNode() {
    PlaneTests x = Graphs.graph(3);
    due("node 3", x.round(3, 0), -1);
    for (int bad : Graphs.FAR) due("node " + bad, x.round(bad, 0), -1);
    due("without nodes", new PlaneTests().round(0, 0), -1);
  }

  // "-1 there is no such node, -3 it is not PLANE, -1 no such place": in this order.
  private static void promise12WhichRefusalIsFirst() {
    PlaneTests x = Graphs.graph(6, Graphs.K33);
    due("no such node, not plane", x.round(6, 0), -1);
    due("no such node, not plane, no such place", x.round(-1, -1), -1);
    due("not plane", x.round(0, 0), -3);
    due("not plane, behind the row", x.round(0, 20), -3);
    due("not plane, ahead of the row", x.round(0, -1), -3);
  }

  // ---- 13: dual

  // "what = 0, 1", "-2 another what"
  private static void promise13AnotherWhat() {
    PlaneTests x = Graphs.graph(3, Graphs.TRIANGLE);
    due("what 0", x.dual(2, 0), 0);
    due("what 1", x.dual(2, 1), 1);
    due("what 2", x.dual(2, 2), -2);
    for (int bad : Graphs.FAR) due("what " + bad, x.dual(0, bad), -2);
  }

  // "-1 there is no such ARC": also one that was cut.
  private static void promise13NoSuchArc() {
    PlaneTests x = Graphs.graph(3, Graphs.TRIANGLE);
    due("not made yet", x.dual(3, 0), -1);
    for (int bad : Graphs.FAR) due("arc " + bad, x.dual(bad, 0), -1);
    x.arc(0, 1);
    x.cut(0);
    due("cut", x.dual(0, 0), -1);
    due("the last one", x.dual(3, 1), 1);
    due("without nodes", new PlaneTests().dual(0, 0), -1);
    due("without arcs", Graphs.graph(1).dual(0, 0), -1);
  }

  // "-1 there is no such ARC": of 80 the last is 79.
  private static void promise13TheLastArc() {
    PlaneTests x = eightyLoops();
    due("0", x.dual(79, 0), 0);
    due("1", x.dual(79, 1), 80);
    due("80", x.dual(80, 0), -1);
  }

  // "-1 .., -2 .., -3 ..": in this order.
  private static void promise13WhichRefusalIsFirst() {
    PlaneTests x = Graphs.graph(5, Graphs.K5);
    due("no such arc, another what, not plane", x.dual(10, 2), -1);
    due("no such arc, not plane", x.dual(-1, 0), -1);
    due("another what, not plane", x.dual(0, 2), -2);
    due("another what, not plane", x.dual(0, -1), -2);
    due("not plane", x.dual(0, 1), -3);
    x.cut(3);
    due("cut, another what", x.dual(3, 2), -1);
    PlaneTests y = Graphs.graph(3, 0, 1);
    due("no such arc, another what, not connected", y.dual(1, 2), -1);
    due("another what, not connected", y.dual(0, 2), -2);
    due("not connected", y.dual(0, 0), -3);
  }

  // "THE DUAL of a PLANE GRAPH that is connected": a LOOP or an ALIKE ARC connects nothing.
  private static void promise13NotConnected() {
    PlaneTests x = Graphs.graph(2, 0, 0);
    due("a node alone", x.dual(0, 0), -3);
    x.arc(1, 1);
    due("a loop at each", x.dual(1, 1), -3);
    due("joined", x.arc(0, 1), 2);
    due("one part", x.dual(0, 0), 0);
    x.cut(2);
    due("two parts again", x.dual(0, 0), -3);
    PlaneTests y = Graphs.graph(4, 0, 1, 0, 1, 2, 3, 2, 3);
    due("two parts of alike arcs", y.dual(2, 0), -3);
    PlaneTests z = Graphs.graph(20, Graphs.path(19));
    due("the last node is alone", z.dual(0, 0), -3);
    z.arc(19, 0);
    due("all twenty", z.dual(18, 1), 0);
  }

  // "joins the FACE that has its END 2 k and the one that has 2 k + 1": perhaps the same one.
  private static void promise13OneFaceOnBothSides() {
    PlaneTests x = Graphs.graph(4, Graphs.TRIANGLE);
    x.arc(0, 3);
    due("the bridge", x.dual(3, 0), x.dual(3, 1));
    due("others", x.dual(0, 0) + x.dual(0, 1), 1);
    PlaneTests path = Graphs.graph(20, Graphs.path(20));
    for (int k = 0; k < 19; k++) due("a path", path.dual(k, 0) + path.dual(k, 1), 0);
  }

  // ---- 14: dualBack

  // "-3 there is no DUAL": not connected.
  private static void promise14NotConnected() {
    due("a node alone", Graphs.graph(2, 0, 0).dualBack(), -3);
    due("two parts", Graphs.graph(4, 0, 1, 2, 3).dualBack(), -3);
    due("no nodes", new PlaneTests().dualBack(), -3);
    due("twenty nodes", Graphs.graph(20).dualBack(), -3);
  }

  // "connected and has ARCS": one node is connected.
  private static void promise14WithoutArcs() {
    PlaneTests x = Graphs.graph(1);
    due("no arcs", x.dualBack(), -3);
    x.arc(0, 0);
    due("a loop", x.dualBack(), 1);
    x.cut(0);
    due("no arcs again", x.dualBack(), -3);
  }

  // "-3 there is no DUAL": not PLANE.
  private static void promise14NotPlane() {
    PlaneTests x = Graphs.graph(5, Graphs.K5);
    due("five", x.dualBack(), -3);
    x.cut(9);
    due("less one", x.dualBack(), 1);
    due("six", Graphs.graph(6, Graphs.K33).dualBack(), -3);
  }

  // "has as many FACES as the GRAPH nodes, each with just the ENDS of one node: 1 or 0"
  private static void promise14TheFullestGraphs() {
    due("eighty loops", eightyLoops().dualBack(), 1);
    due("twenty nodes", Graphs.graph(20, Graphs.fullPlane(20)).dualBack(), 1);
    due("a path", Graphs.graph(20, Graphs.path(20)).dualBack(), 1);
    PlaneTests two = Graphs.graph(2);
    Graphs.alike(two, 0, 1, 80);
    due("eighty alike", two.dualBack(), 1);
    two.cut(0);
    two.cut(79);
    two.swap(0, 0, 5);
    due("less two, and rows told otherwise", two.dualBack(), 1);
  }

  // ---- 15: place

  // "with one it lies at 0, 0"
  private static void promise15OneNode() {
    duePlace(Graphs.graph(1), 0, 0, 0);
    duePlace(eightyLoops(), 0, 0, 0);
  }

  // "With two nodes 0 lies at 0, 0 and 1 at 1, 0"
  private static void promise15TwoNodes() {
    PlaneTests x = Graphs.graph(2);
    duePlace(x, 0, 0, 0);
    duePlace(x, 1, 1, 0);
    x.arc(1, 0);
    x.arc(1, 1);
    duePlace(x, 0, 0, 0);
    duePlace(x, 1, 1, 0);
  }

  // "of three or more nodes": three, with and without ARCS.
  private static void promise15ThreeNodes() {
    for (PlaneTests x : new PlaneTests[] {Graphs.graph(3), Graphs.graph(3, Graphs.TRIANGLE)}) {
      duePlace(x, 0, 1, 0);
      duePlace(x, 1, 0, 1);
      duePlace(x, 2, 0, 0);
    }
  }

  // The kinds follow one another as nodes come.
  private static void promise15OneNodeAfterTheOther() {
    PlaneTests x = Graphs.graph(1);
    duePlace(x, 0, 0, 0);
    x.node();
    duePlace(x, 0, 0, 0);
    duePlace(x, 1, 1, 0);
    x.node();
    duePlace(x, 0, 1, 0);
    duePlace(x, 1, 0, 1);
    x.node();
    duePlace(x, 0, 3, 0);
    duePlace(x, 3, 1, 1);
    x.clear();
    x.node();
    x.node();
    duePlace(x, 0, 0, 0);
    duePlace(x, 1, 1, 0);
  }

  // "OUTER is the FACE whose three nodes, a < b < c, are least (by a, then b, then c)"
  private static void promise15Outer() {
    PlaneTests six = Graphs.graph(6);
    duePlace(six, 0, 7, 0);
    duePlace(six, 1, 0, 7);
    duePlace(six, 2, 1, 1);
    duePlace(six, 3, 2, 2);
    duePlace(six, 4, 0, 0);
    duePlace(six, 5, 3, 3);
    // 0 and 1 are not joined: a, b, c are 0, 2, 3
    PlaneTests five = Graphs.graph(5, K5_LESS_THE_FIRST);
    duePlace(five, 0, 5, 0);
    duePlace(five, 2, 0, 5);
    duePlace(five, 3, 0, 0);
    duePlace(five, 1, 1, 2);
    duePlace(five, 4, 3, 1);
  }

  // "then always the greatest one, but a and b, that lies on the RIM and has just two NEIGHBOURS
  // on it, and is no NEIGHBOUR of a third node of it"
  private static void promise15TakenOff() {
    // 2 is first, then 4 ahead of 3, and 5 waits for 3, as it has three on the RIM
    PlaneTests x = Graphs.graph(6, OCTAHEDRON);
    duePlace(x, 0, 7, 0);
    duePlace(x, 1, 0, 7);
    duePlace(x, 2, 0, 0);
    duePlace(x, 3, 4, 1);
    duePlace(x, 4, 1, 2);
    duePlace(x, 5, 2, 4);
  }

  // THE DRAWING is of the graph as it is, whatever was drawn before.
  private static void promise15OneDrawingAfterAnother() {
    PlaneTests x = Graphs.graph(6, OCTAHEDRON);
    duePlace(x, 4, 1, 2);
    x.clear();
    for (int v = 0; v < 6; v++) x.node();
    duePlace(x, 4, 0, 0);
    duePlace(x, 2, 1, 1);
    duePlace(x, 5, 3, 3);
    Graphs.arcs(x, 0, OCTAHEDRON);
    duePlace(x, 2, 0, 0);
    duePlace(x, 3, 4, 1);
    duePlace(x, 5, 2, 4);
    // without its ARCS it is drawn as before
    for (int k = 0; k < 12; k++) x.cut(k);
    duePlace(x, 4, 0, 0);
    duePlace(x, 3, 2, 2);
  }

  // "a has x = 2 V - 5, y = 0; b has x = 0, y = 2 V - 5; c has 0, 0": up to twenty nodes.
  private static void promise15TwentyNodes() {
    for (int n = 4; n <= 20; n++) {
      PlaneTests x = Graphs.graph(n, Graphs.fullPlane(n));
      duePlace(x, 0, 2 * n - 5, 0);
      duePlace(x, 1, 0, 2 * n - 5);
      // the others lie one within the other, from the least on
      for (int v = 2; v < n; v++) duePlace(x, v, v - 2, v - 2);
    }
    PlaneTests y = Graphs.graph(20);
    duePlace(y, 18, 0, 0);
    duePlace(y, 2, 8, 8);
    duePlace(y, 19, 17, 17);
  }

  // "axis 0 x, 1 y", "-2"
  private static void promise15AnotherAxis() {
    PlaneTests x = Graphs.graph(2);
    due("axis 2", x.place(1, 2), -2);
    for (int bad : Graphs.FAR) due("axis " + bad, x.place(1, bad), -2);
    due("axis 1", x.place(1, 1), 0);
    due("axis 0", x.place(1, 0), 1);
  }

  // "-1" there is no such node
  private static void promise15NoSuchNode() {
    PlaneTests x = Graphs.graph(2);
    due("node 2", x.place(2, 0), -1);
    for (int bad : Graphs.FAR) due("node " + bad, x.place(bad, 0), -1);
    due("without nodes", new PlaneTests().place(0, 0), -1);
    due("node 20", Graphs.graph(20).place(20, 1), -1);
  }

  // "-1, -2, -3 it is not PLANE": in this order.
  private static void promise15WhichRefusalIsFirst() {
    PlaneTests x = Graphs.graph(5, Graphs.K5);
    due("no such node, another axis, not plane", x.place(5, 2), -1);
    due("no such node, not plane", x.place(-1, 0), -1);
    due("another axis, not plane", x.place(4, 2), -2);
    due("another axis, not plane", x.place(4, -1), -2);
    due("not plane", x.place(4, 1), -3);
    due("no such node, another axis", Graphs.graph(1).place(1, 2), -1);
  }

  // ---- 16: crossing

  // "two ARCS that are no LOOPS and not ALIKE": these alone are looked at.
  private static void promise16LoopsAndAlikeArcs() {
    due("loops", eightyLoops().crossing(), 0);
    PlaneTests two = Graphs.graph(2, 0, 0, 1, 1);
    for (int k = 0; k < 78; k++) two.arc(k % 2, 1 - k % 2);
    due("alike either way", two.crossing(), 0);
    PlaneTests four = Graphs.graph(4);
    for (int k = 0; k < 80; k++) four.arc(k % 4, k / 4 % 4);
    due("both", four.crossing(), 0);
  }

  // "other than the PLACE of a node that both have": ARCS that have one are no crossing.
  private static void promise16ANodeThatBothHave() {
    for (int n = 3; n <= 20; n++) {
      due("full with " + n, Graphs.graph(n, Graphs.fullPlane(n)).crossing(), 0);
      due("a path of " + n, Graphs.graph(n, Graphs.path(n)).crossing(), 0);
    }
    due("six", Graphs.graph(6, OCTAHEDRON).crossing(), 0);
    due("none joined", Graphs.graph(20).crossing(), 0);
    due("no nodes", new PlaneTests().crossing(), 0);
  }

  // "two ARCS": those that were cut are none, though they would cross others.
  private static void promise16ThoseThatWereCut() {
    for (int k = 0; k < 10; k++) {
      PlaneTests x = Graphs.graph(5, Graphs.K5);
      x.cut(k);
      due("less " + k, x.crossing(), 0);
    }
    for (int k = 0; k < 9; k++) {
      PlaneTests x = Graphs.graph(6, Graphs.K33);
      x.cut(k);
      due("six less " + k, x.crossing(), 0);
    }
    PlaneTests x = Graphs.graph(20, Graphs.fullPlane(20));
    for (int v = 2; v < 17; v++) x.arc(v, v + 3);
    due("not plane", x.crossing(), -3);
    for (int k = 54; k < 69; k++) x.cut(k);
    due("plane again", x.crossing(), 0);
  }

  // "-3 it is not PLANE"
  private static void promise16NotPlane() {
    PlaneTests x = Graphs.graph(5, Graphs.K5);
    due("five", x.crossing(), -3);
    x.cut(0);
    due("less one", x.crossing(), 0);
    due("six", Graphs.graph(6, Graphs.K33).crossing(), -3);
  }
}
