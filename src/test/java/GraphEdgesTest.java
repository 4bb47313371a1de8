/**
 * Promises 1 to 8 at their edges: each test is of one sentence of the document, which stands above
 * it.
 */
public final class GraphEdgesTest {
  private static final Checks CHECKS = new Checks();

  public static void main(String[] args) {
    CHECKS.runAll(GraphEdgesTest.class);
  }

  private static void due(String what, long got, long want) {
    CHECKS.due(what, got, want);
  }

  // ---- 1: a new object

  // "An object is used for at most 512 calls after it has been made."
  private static void promise01The512thCallIsAnswered() {
    PlaneTests x = Graphs.graph(20, Graphs.cycle(20));
    for (int k = 20; k < 80; k++) due("arc", x.arc(k % 20, k % 20), k);
    for (int call = 101; call <= 511; call++) due("swap, call " + call, x.swap(0, 0, 1), 1);
    due("call 512", x.told(0, 0), 39);
  }

  // "An object is used for at most 512 calls": also where it is cleared again and again.
  private static void promise01The512thCallIsAnsweredBehindManyClears() {
    PlaneTests x = new PlaneTests();
    for (int i = 0; i < 102; i++) {
      due("node", x.node(), 0);
      due("node", x.node(), 1);
      due("arc", x.arc(1, 0), 0);
      due("faces", x.faces(), 1);
      due("clear", x.clear(), 2);
    }
    due("call 511", x.node(), 0);
    due("call 512", x.degree(0), 0);
  }

  // "An object is used for at most 512 calls": also where each question is of another graph.
  private static void promise01The512thCallIsAnsweredBehindManyGraphs() {
    PlaneTests x = Graphs.graph(20);
    int calls = 20;
    for (int k = 0; k < 80; k++) {
      due("arc", x.arc(k % 20, (k + 1) % 20), k);
      due("place", x.place(0, 0), 35);
      due("crossing", x.crossing(), 0);
      calls += 3;
    }
    for (int k = 0; k < 80; k++) {
      due("cut", x.cut(k), 79 - k);
      due("place", x.place(1, 1), 35);
      due("barred", x.barred(), 0);
      calls += 3;
    }
    for (; calls < 511; calls++) due("test", x.test(), 1);
    due("call 512", x.place(19, 0), 17);
  }

  // "No nodes."
  private static void promise01ANewObjectHasNoNodes() {
    PlaneTests x = new PlaneTests();
    due("degree", x.degree(0), -1);
    due("arc", x.arc(0, 0), -1);
    due("turn", x.turn(0, 0), -1);
    due("round", x.round(0, 0), -1);
    due("place", x.place(0, 0), -1);
    due("told", x.told(0, 0), -1);
    due("swap", x.swap(0, 0, 0), -1);
    due("clear", x.clear(), 0);
    due("node", x.node(), 0);
  }

  // "No nodes." (and no ARCS)
  private static void promise01ANewObjectHasNoArcs() {
    PlaneTests x = new PlaneTests();
    due("cut", x.cut(0), -1);
    due("dual", x.dual(0, 0), -1);
    due("strand", x.strand(0), -1);
    due("dualBack", x.dualBack(), -3);
    due("piece", x.piece(0), -3);
    due("branch", x.branch(0), -3);
    due("barred", x.barred(), 0);
    x.node();
    due("arc", x.arc(0, 0), 0);
  }

  // "No nodes.": what a graph without nodes answers.
  private static void promise01ANewObjectIsPlane() {
    PlaneTests x = new PlaneTests();
    due("test", x.test(), 1);
    due("outer", x.outer(), 1);
    due("faces", x.faces(), 0);
    due("face", x.face(0, 0), -1);
    due("crossing", x.crossing(), 0);
    due("take", x.take(), 1);
    due("genus", x.genus(), 0);
    due("toldFaces", x.toldFaces(), 0);
  }

  // "No nodes.": also while other objects have some.
  private static void promise01ObjectsHaveNothingInCommon() {
    PlaneTests one = Graphs.graph(5, Graphs.K5);
    due("barred", one.barred(), 5);
    PlaneTests other = new PlaneTests();
    due("the new one's clear", other.clear(), 0);
    due("the new one's node", other.node(), 0);
    due("the new one's arc", other.arc(0, 0), 0);
    due("the new one's swap", other.swap(0, 0, 1), 1);
    due("the new one's faces", other.faces(), 2);
    due("the first one's degree", one.degree(0), 4);
    due("the first one's row", one.told(0, 0), 0);
    due("the first one's arc", one.arc(0, 0), 10);
    due("the first one's barred", one.barred(), 5);
  }

  // ---- 2: node

  // "nodes 0, 1, .. (20 at most)", "A node more: its number. -4."
  private static void promise02TwentyNodesAtMost() {
    PlaneTests x = new PlaneTests();
    for (int v = 0; v < 20; v++) due("node", x.node(), v);
    for (int i = 0; i < 3; i++) due("the 21st node", x.node(), -4);
  }

  // "REFUSALS change nothing"
  private static void promise02ARefusedNodeIsNotThere() {
    PlaneTests x = Graphs.graph(20, 0, 19);
    due("refused", x.node(), -4);
    due("degree(20)", x.degree(20), -1);
    due("arc to 20", x.arc(0, 20), -1);
    due("faces", x.faces(), 19);
    due("toldFaces", x.toldFaces(), 19);
    due("degree(19)", x.degree(19), 1);
    due("clear", x.clear(), 20);
  }

  // "(20 at most)": nodes that were cleared are not counted.
  private static void promise02RoomAgainBehindClear() {
    PlaneTests x = Graphs.graph(20);
    due("refused", x.node(), -4);
    due("clear", x.clear(), 20);
    for (int v = 0; v < 20; v++) due("node", x.node(), v);
    due("refused", x.node(), -4);
  }

  // "-4 there is no room": of nodes, however many ARCS there are.
  private static void promise02RoomForNodesWhereArcsHaveNone() {
    PlaneTests x = Graphs.graph(1);
    Graphs.alike(x, 0, 0, 80);
    due("no room for an arc", x.arc(0, 0), -4);
    for (int v = 1; v < 20; v++) due("node", x.node(), v);
    due("no room for a node", x.node(), -4);
  }

  // "A node more": without ENDS, and every answer is of the graph with it.
  private static void promise02ANodeMoreIsInAllAnswers() {
    PlaneTests x = Graphs.graph(3, Graphs.TRIANGLE);
    due("faces", x.faces(), 2);
    due("toldFaces", x.toldFaces(), 2);
    due("place", x.place(0, 0), 1);
    due("dual", x.dual(0, 0), 0);
    due("round", x.round(0, 2), -1);
    due("node", x.node(), 3);
    due("its degree", x.degree(3), 0);
    due("faces with it", x.faces(), 3);
    due("toldFaces with it", x.toldFaces(), 3);
    due("place with it", x.place(0, 0), 3);
    due("no dual with it", x.dual(0, 0), -3);
    due("round with it", x.round(0, 2), 3);
    due("genus with it", x.genus(), 0);
  }

  // ---- 3: arc

  // "ARCS 0, 1, .. (80 at most)", "An ARC more: its number. -1, -4."
  private static void promise03EightyArcsAtMost() {
    PlaneTests x = Graphs.graph(2);
    for (int k = 0; k < 80; k++) due("arc", x.arc(k % 2, k / 2 % 2), k);
    for (int i = 0; i < 3; i++) due("the 81st arc", x.arc(0, 1), -4);
  }

  // "(80 at most, those that were cut counted": none of 80 is left.
  private static void promise03ThoseThatWereCutAreCounted() {
    PlaneTests x = Graphs.graph(2);
    Graphs.alike(x, 0, 1, 80);
    for (int k = 0; k < 80; k++) {
      due("cut", x.cut(k), 79 - k);
      due("no room all the same", x.arc(1, 1), -4);
    }
    due("degree", x.degree(1), 0);
    due("faces", x.faces(), 2);
  }

  // "(80 at most, those that were cut counted": some were cut on the way to 80.
  private static void promise03ThoseThatWereCutBeforeAreCounted() {
    PlaneTests x = Graphs.graph(1);
    for (int k = 0; k < 80; k++) {
      due("arc", x.arc(0, 0), k);
      if (k % 2 == 0) due("cut", x.cut(k), k / 2);
    }
    due("degree", x.degree(0), 80);
    due("no room with forty arcs", x.arc(0, 0), -4);
  }

  // "a number does not come again"
  private static void promise03ANumberDoesNotComeAgain() {
    PlaneTests x = Graphs.graph(2);
    due("arc", x.arc(0, 1), 0);
    due("cut", x.cut(0), 0);
    due("arc behind the cut", x.arc(0, 1), 1);
    due("arc", x.arc(0, 1), 2);
    due("cut", x.cut(1), 1);
    due("arc behind the cut", x.arc(0, 1), 3);
    due("0 is no more", x.cut(0), -1);
    due("1 is no more", x.dual(1, 0), -1);
    due("2 is there", x.cut(2), 1);
    due("3 is there", x.cut(3), 0);
  }

  // "(80 at most": those that were cleared are not counted.
  private static void promise03RoomAgainBehindClear() {
    PlaneTests x = Graphs.graph(2);
    Graphs.alike(x, 0, 1, 80);
    due("refused", x.arc(0, 1), -4);
    due("clear", x.clear(), 2);
    due("node", x.node(), 0);
    for (int k = 0; k < 80; k++) due("arc", x.arc(0, 0), k);
    due("refused", x.arc(0, 0), -4);
  }

  // "each from a node to a node, perhaps the same (a LOOP)"
  private static void promise03ALoopHasTwoEndsAtItsNode() {
    PlaneTests x = Graphs.graph(2, 1, 1);
    due("degree", x.degree(1), 2);
    due("degree of the other", x.degree(0), 0);
    CHECKS.dueRow("told", k -> x.told(1, k), 0, 1);
    CHECKS.dueRow("turn", k -> x.turn(1, k), 0, 1);
    due("test", x.test(), 1);
  }

  // "perhaps beside others (ALIKE: those that join the same two nodes)", either way.
  private static void promise03AlikeArcsAreTaken() {
    PlaneTests x = Graphs.graph(2);
    due("arc", x.arc(0, 1), 0);
    due("arc", x.arc(1, 0), 1);
    due("arc", x.arc(0, 1), 2);
    CHECKS.dueRow("told", k -> x.told(0, k), 0, 3, 4);
    CHECKS.dueRow("told", k -> x.told(1, k), 1, 2, 5);
  }

  // "two ENDS: 2 k at the node from which, 2 k + 1 at the one to which it is told"
  private static void promise03EndsAreAtTheNodesTold() {
    PlaneTests x = Graphs.graph(3, 2, 0, 1, 2);
    CHECKS.dueRow("told", k -> x.told(0, k), 1);
    CHECKS.dueRow("told", k -> x.told(1, k), 2);
    CHECKS.dueRow("told", k -> x.told(2, k), 0, 3);
  }

  // "-1 there is no such node": the first that is none, and those far off, in either place.
  private static void promise03NoSuchNode() {
    PlaneTests x = Graphs.graph(3);
    due("from 3", x.arc(3, 0), -1);
    due("to 3", x.arc(0, 3), -1);
    due("from and to 3", x.arc(3, 3), -1);
    for (int bad : Graphs.FAR) {
      due("from " + bad, x.arc(bad, 0), -1);
      due("to " + bad, x.arc(0, bad), -1);
      due("from and to " + bad, x.arc(bad, bad), -1);
    }
    due("the last node", x.arc(2, 2), 0);
    due("the first node", x.arc(0, 0), 1);
  }

  // "-1 there is no such node": where there are 20 the last is 19.
  private static void promise03NoSuchNodeOfTwenty() {
    PlaneTests x = Graphs.graph(20);
    due("to 20", x.arc(0, 20), -1);
    due("from 20", x.arc(20, 0), -1);
    due("19 and 19", x.arc(19, 19), 0);
    due("0 and 19", x.arc(0, 19), 1);
  }

  // "-1 there is no such node": nodes that were there ahead of clear.
  private static void promise03NoSuchNodeBehindClear() {
    PlaneTests x = Graphs.graph(4);
    x.clear();
    due("no nodes", x.arc(0, 0), -1);
    x.node();
    due("node 1 is no more", x.arc(0, 1), -1);
    due("node 1 is no more", x.arc(1, 0), -1);
    due("node 0 is there", x.arc(0, 0), 0);
  }

  // "answer, the first that fits: -1 .. -4"
  private static void promise03NoSuchNodeIsAheadOfNoRoom() {
    PlaneTests x = Graphs.graph(2);
    Graphs.alike(x, 0, 1, 80);
    due("no room", x.arc(1, 0), -4);
    due("no such from", x.arc(2, 0), -1);
    due("no such to", x.arc(0, 2), -1);
    due("neither", x.arc(-1, 2), -1);
  }

  // "REFUSALS change nothing"
  private static void promise03ARefusedArcHasNoNumberAndNoEnds() {
    PlaneTests x = Graphs.graph(2, 0, 1);
    due("refused", x.arc(0, 2), -1);
    due("refused", x.arc(2, 0), -1);
    due("degree", x.degree(0), 1);
    due("genus", x.genus(), 0);
    due("the next number", x.arc(0, 0), 1);
    CHECKS.dueRow("told", k -> x.told(0, k), 0, 2, 3);
  }

  // ---- 4: cut

  // "An ARC is no more: how many there are."
  private static void promise04HowManyThereAre() {
    PlaneTests x = Graphs.graph(3, Graphs.TRIANGLE);
    due("the middle one", x.cut(1), 2);
    due("arc", x.arc(1, 1), 3);
    due("the first one", x.cut(0), 2);
    due("the last one", x.cut(3), 1);
    due("the only one", x.cut(2), 0);
  }

  // "-1 (also one that was cut)"
  private static void promise04OneThatWasCut() {
    PlaneTests x = Graphs.graph(2, 0, 1, 0, 0);
    due("cut", x.cut(0), 1);
    due("again", x.cut(0), -1);
    due("arc", x.arc(0, 1), 2);
    due("once more", x.cut(0), -1);
    due("the other", x.cut(1), 1);
    due("the other again", x.cut(1), -1);
  }

  // "-1 there is no such .. ARC"
  private static void promise04NoSuchArc() {
    PlaneTests x = Graphs.graph(2, 0, 1, 0, 1);
    due("not made yet", x.cut(2), -1);
    due("not made yet", x.cut(79), -1);
    due("never made", x.cut(80), -1);
    for (int bad : Graphs.FAR) due("far off", x.cut(bad), -1);
    due("the last one", x.cut(1), 1);
    due("without nodes", new PlaneTests().cut(0), -1);
    due("without arcs", Graphs.graph(20).cut(0), -1);
  }

  // "-1 there is no such .. ARC": of 80 the last is 79.
  private static void promise04NoSuchArcOfEighty() {
    PlaneTests x = Graphs.graph(1);
    Graphs.alike(x, 0, 0, 80);
    due("80", x.cut(80), -1);
    due("79", x.cut(79), 79);
    due("79 again", x.cut(79), -1);
    due("0", x.cut(0), 78);
  }

  // "-1 there is no such .. ARC": one that was there ahead of clear.
  private static void promise04NoSuchArcBehindClear() {
    PlaneTests x = Graphs.graph(2, 0, 1, 0, 1);
    x.clear();
    due("no arcs", x.cut(0), -1);
    x.node();
    x.arc(0, 0);
    due("arc 1 is no more", x.cut(1), -1);
    due("arc 0 is there", x.cut(0), 0);
  }

  // "REFUSALS change nothing"
  private static void promise04ARefusedCutCutsNothing() {
    PlaneTests x = Graphs.graph(3, Graphs.TRIANGLE);
    due("cut", x.cut(1), 2);
    due("refused", x.cut(1), -1);
    due("refused", x.cut(3), -1);
    due("refused", x.cut(-1), -1);
    due("degree", x.degree(0), 2);
    due("degree", x.degree(1), 1);
    due("faces", x.faces(), 1);
    due("the next number", x.arc(1, 2), 3);
    due("three again", x.cut(3), 2);
  }

  // "An ARC is no more": of a LOOP both ENDS go.
  private static void promise04ALoopGoesWithBothEnds() {
    PlaneTests x = Graphs.graph(2, 0, 1, 0, 0, 0, 1);
    due("cut", x.cut(1), 2);
    CHECKS.dueRow("told", k -> x.told(0, k), 0, 4);
    CHECKS.dueRow("turn", k -> x.turn(0, k), 0, 4);
    due("degree", x.degree(0), 2);
  }

  // "An ARC is no more": those ALIKE stay, and the nodes stay NEIGHBOURS.
  private static void promise04AlikeOnesStay() {
    PlaneTests x = Graphs.graph(5, Graphs.K5);
    due("one more", x.arc(1, 0), 10);
    due("cut", x.cut(0), 10);
    due("not plane still", x.test(), 0);
    due("cut", x.cut(10), 9);
    due("plane", x.test(), 1);
  }

  // "An ARC is no more": every answer is of the graph without it.
  private static void promise04AnArcLessIsInAllAnswers() {
    PlaneTests x = Graphs.graph(4, Graphs.cycle(4));
    due("dual", x.dual(0, 0) + x.dual(0, 1), 1);
    due("faces", x.faces(), 2);
    due("cut", x.cut(3), 3);
    due("faces", x.faces(), 1);
    due("dual", x.dual(0, 0) + x.dual(0, 1), 0);
    due("cut", x.cut(1), 2);
    due("no dual", x.dual(0, 0), -3);
    due("toldFaces", x.toldFaces(), 2);
    due("cut", x.cut(0), 1);
    due("cut", x.cut(2), 0);
    due("faces", x.faces(), 4);
    due("genus", x.genus(), 0);
  }

  // ---- 5: clear

  // "how many nodes there were": none, one, all.
  private static void promise05HowManyNodesThereWere() {
    for (int n = 0; n <= 20; n++) {
      PlaneTests x = Graphs.graph(n);
      due("clear", x.clear(), n);
      due("clear again", x.clear(), 0);
    }
    PlaneTests full = Graphs.graph(20);
    full.node();
    due("a refused node does not count", full.clear(), 20);
  }

  // "No nodes any more, and no ARCS"
  private static void promise05NoNodesAndNoArcs() {
    PlaneTests x = Graphs.graph(5, Graphs.K5);
    due("barred", x.barred(), 5);
    due("clear", x.clear(), 5);
    for (int v = 0; v < 5; v++) due("degree", x.degree(v), -1);
    for (int k = 0; k < 10; k++) due("cut", x.cut(k), -1);
    due("test", x.test(), 1);
    due("outer", x.outer(), 1);
    due("barred", x.barred(), 0);
    due("piece", x.piece(0), -3);
    due("faces", x.faces(), 0);
    due("toldFaces", x.toldFaces(), 0);
    due("genus", x.genus(), 0);
    due("dualBack", x.dualBack(), -3);
  }

  // "from 0 on again": both kinds of numbers, those that were cut too.
  private static void promise05NumbersFromZeroOnAgain() {
    PlaneTests x = Graphs.graph(3, Graphs.TRIANGLE);
    x.cut(0);
    x.cut(2);
    due("clear", x.clear(), 3);
    due("node", x.node(), 0);
    due("node", x.node(), 1);
    due("arc", x.arc(1, 0), 0);
    due("arc", x.arc(0, 0), 1);
    due("no arc 2", x.dual(2, 0), -1);
    due("cut", x.cut(0), 1);
    due("cut", x.cut(1), 0);
  }

  // "from 0 on again": rows that were told are not kept.
  private static void promise05ToldRowsAreNew() {
    PlaneTests x = Graphs.graph(1, 0, 0, 0, 0);
    x.swap(0, 1, 2);
    due("genus", x.genus(), 1);
    x.clear();
    x.node();
    CHECKS.dueRow("without arcs", k -> x.told(0, k));
    Graphs.arcs(x, 0, 0, 0, 0, 0);
    CHECKS.dueRow("told", k -> x.told(0, k), 0, 1, 2, 3);
    due("genus", x.genus(), 0);
  }

  // ---- 6: test

  // "Whether it is PLANE: 1 or 0.": up to four nodes all graphs are.
  private static void promise06AllGraphsOfFewNodes() {
    for (int n = 0; n <= 4; n++) {
      PlaneTests x = Graphs.graph(n);
      for (int v = 0; v < n; v++) {
        for (int w = 0; w <= v; w++) x.arc(v, w);
      }
      due(n + " nodes", x.test(), 1);
    }
  }

  // "A GRAPH is PLANE if there are TURNS with GENUS 0.": the two that are not, and all just below.
  private static void promise06TheTwoBarredGraphs() {
    due("five", Graphs.graph(5, Graphs.K5).test(), 0);
    due("six", Graphs.graph(6, Graphs.K33).test(), 0);
    for (int k = 0; k < 10; k++) {
      PlaneTests x = Graphs.graph(5, Graphs.K5);
      x.cut(k);
      due("five less " + k, x.test(), 1);
    }
    for (int k = 0; k < 9; k++) {
      PlaneTests x = Graphs.graph(6, Graphs.K33);
      x.cut(k);
      due("six less " + k, x.test(), 1);
    }
  }

  // "perhaps the same (a LOOP), perhaps beside others (ALIKE ..)": neither is ever in the way.
  private static void promise06LoopsAndAlikeArcsMatterNot() {
    PlaneTests x = Graphs.graph(5, Graphs.K5);
    x.cut(9);
    for (int k = 10; k < 40; k++) x.arc(k % 5, k % 5);
    for (int k = 40; k < 80; k++) x.arc(k % 3, (k + 1) % 3);
    due("with seventy more", x.test(), 1);
    PlaneTests two = Graphs.graph(2);
    Graphs.alike(two, 0, 1, 80);
    due("eighty between two nodes", two.test(), 1);
    PlaneTests one = Graphs.graph(1);
    Graphs.alike(one, 0, 0, 80);
    due("eighty loops", one.test(), 1);
    PlaneTests bad = Graphs.graph(5, Graphs.K5);
    Graphs.alike(bad, 4, 4, 70);
    due("not plane with loops", bad.test(), 0);
  }

  // "(20 at most)": the fullest PLANE graph of all sizes, and with one ARC more.
  private static void promise06TheFullestPlaneGraphs() {
    for (int n = 3; n <= 20; n++) {
      due("full with " + n, Graphs.graph(n, Graphs.fullPlane(n)).test(), 1);
    }
    for (int v = 2; v < 20; v++) {
      for (int w = v + 2; w < 20; w++) {
        PlaneTests x = Graphs.graph(20, Graphs.fullPlane(20));
        x.arc(v, w);
        due("with " + v + " and " + w + " joined", x.test(), 0);
      }
    }
  }

  // "(20 at most)": the last nodes are looked at as well, and each part.
  private static void promise06APartThatIsNotPlane() {
    PlaneTests five = Graphs.graph(20);
    Graphs.arcs(five, 15, Graphs.K5);
    due("five of 20", five.test(), 0);
    five.cut(9);
    due("less one", five.test(), 1);
    PlaneTests six = Graphs.graph(20, Graphs.cycle(14));
    Graphs.arcs(six, 14, Graphs.K33);
    due("six of 20", six.test(), 0);
    six.cut(22);
    due("less one", six.test(), 1);
  }

  // "(20 at most)": the six with all other nodes on their ways.
  private static void promise06NodesOnTheWays() {
    PlaneTests x = Graphs.graph(20);
    int middle = 6;
    for (int i = 0; i < 18; i += 2) {
      int from = Graphs.K33[i];
      for (int more = 0; more < (i < 10 ? 2 : 1); more++) {
        x.arc(middle, from);
        from = middle++;
      }
      x.arc(from, Graphs.K33[i + 1]);
    }
    due("all nodes are used", middle, 20);
    due("not plane", x.test(), 0);
    due("cut", x.cut(22), 22);
    due("plane", x.test(), 1);
  }

  // ---- 7: outer

  // "Whether it is OUTERPLANE": the smallest that are not, and all just below.
  private static void promise07TheTwoSmallestThatAreNot() {
    due("four", Graphs.graph(4, Graphs.K4).outer(), 0);
    due("two and three", Graphs.graph(5, Graphs.K23).outer(), 0);
    for (int k = 0; k < 6; k++) {
      PlaneTests x = Graphs.graph(4, Graphs.K4);
      x.cut(k);
      due("four less " + k, x.outer(), 1);
      PlaneTests y = Graphs.graph(5, Graphs.K23);
      y.cut(k);
      due("two and three less " + k, y.outer(), 1);
    }
    due("not even plane", Graphs.graph(6, Graphs.K33).outer(), 0);
  }

  // "with one node more": that needs no room in the graph.
  private static void promise07OfTwentyNodesAndEightyArcs() {
    PlaneTests x = Graphs.graph(20);
    due("lone nodes", x.outer(), 1);
    Graphs.arcs(x, 0, Graphs.cycle(20));
    due("a round of twenty", x.outer(), 1);
    for (int v = 2; v < 19; v++) x.arc(0, v);
    due("all it can have", x.outer(), 1);
    for (int k = 37; k < 80; k++) x.arc(k % 20, k % 20);
    due("eighty arcs", x.outer(), 1);
    x.cut(0);
    due("less one", x.outer(), 1);
  }

  // "with one node more, and an ARC from that to each other one": a hundred ARCS, all different.
  private static void promise07OfEightyDifferentArcs() {
    for (int first = 1; first <= 5; first++) {
      PlaneTests x = Graphs.graph(20);
      for (int k = 0; k < 80; k++) x.arc(k % 20, (k + first + k / 20) % 20);
      due("from " + first + " on", x.outer(), 0);
      due("not plane", x.test(), 0);
    }
  }

  // "with one node more": the least ARC too much.
  private static void promise07OneArcTooMuch() {
    PlaneTests x = Graphs.graph(20, Graphs.cycle(20));
    for (int v = 2; v < 19; v++) x.arc(0, v);
    x.arc(17, 19);
    due("one over node 18", x.outer(), 0);
    due("plane all the same", x.test(), 1);
  }

  // "with one node more, and an ARC from that to each other one": only in thought.
  private static void promise07TheNodeMoreDoesNotStay() {
    PlaneTests x = Graphs.graph(3, Graphs.TRIANGLE);
    due("outer", x.outer(), 1);
    due("degree", x.degree(0), 2);
    due("no node 3", x.degree(3), -1);
    due("faces", x.faces(), 2);
    due("toldFaces", x.toldFaces(), 2);
    due("arc", x.arc(0, 0), 3);
    due("node", x.node(), 3);
    PlaneTests y = Graphs.graph(5, Graphs.K5);
    due("barred", y.barred(), 5);
    due("outer", y.outer(), 0);
    due("barred as before", y.barred(), 5);
    for (int k = 0; k < 10; k++) due("piece as before", y.piece(k), k);
  }

  // "it is PLANE: 1 or 0": graphs of no and of few nodes.
  private static void promise07FewNodes() {
    for (int n = 0; n <= 3; n++) {
      PlaneTests x = Graphs.graph(n);
      for (int v = 0; v < n; v++) {
        for (int w = 0; w <= v; w++) x.arc(v, w);
      }
      due(n + " nodes", x.outer(), 1);
    }
  }

  // ---- 8: degree

  // "How many ENDS a node has.": of a LOOP both, of none 0.
  private static void promise08ALoopCountsTwice() {
    PlaneTests x = Graphs.graph(3, 0, 0, 0, 1, 1, 0);
    due("loop and alike ones", x.degree(0), 4);
    due("alike ones", x.degree(1), 2);
    due("none", x.degree(2), 0);
  }

  // "How many ENDS a node has.": all 160 there can be.
  private static void promise08OneHundredAndSixtyEnds() {
    PlaneTests x = Graphs.graph(2);
    Graphs.alike(x, 1, 1, 80);
    due("eighty loops", x.degree(1), 160);
    due("none", x.degree(0), 0);
    x.arc(0, 0);
    due("a refused arc does not count", x.degree(0), 0);
    x.cut(0);
    due("one less", x.degree(1), 158);
  }

  // "-1." there is no such node
  private static void promise08NoSuchNode() {
    PlaneTests x = Graphs.graph(3, Graphs.TRIANGLE);
    due("3", x.degree(3), -1);
    for (int bad : Graphs.FAR) due("far off", x.degree(bad), -1);
    due("the last one", x.degree(2), 2);
    PlaneTests y = Graphs.graph(20);
    due("20", y.degree(20), -1);
    due("19", y.degree(19), 0);
    due("without nodes", new PlaneTests().degree(0), -1);
  }

  // "-1." alone: it does not matter whether it is PLANE.
  private static void promise08WhereItIsNotPlane() {
    PlaneTests x = Graphs.graph(6, Graphs.K5);
    for (int v = 0; v < 5; v++) due("degree", x.degree(v), 4);
    due("none", x.degree(5), 0);
    due("no such", x.degree(6), -1);
  }
}
