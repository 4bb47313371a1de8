/**
 * Promises 21 to 25 at their edges: each test is of one sentence of the document, which stands
 * above it.
 */
public final class ToldEdgesTest {
  private static final Checks CHECKS = new Checks();

  public static void main(String[] args) {
    CHECKS.runAll(ToldEdgesTest.class);
  }

  private static void due(String what, long got, long want) {
    CHECKS.due(what, got, want);
  }

  private static void dueTold(PlaneTests x, int node, int... want) {
    CHECKS.dueRow("told of " + node, k -> x.told(node, k), want);
  }

  private static void dueGenus(String what, PlaneTests x, int genus, int faces) {
    due(what + ": genus", x.genus(), genus);
    due(what + ": toldFaces", x.toldFaces(), faces);
  }

  private static PlaneTests eightyLoops() {
    PlaneTests x = Graphs.graph(1);
    Graphs.alike(x, 0, 0, 80);
    return x;
  }

  // ---- 21: told

  // "at first, by numbers"
  private static void promise21AtFirstByNumbers() {
    PlaneTests x = Graphs.graph(3, 2, 0, 0, 0, 0, 1, 1, 0, 2, 2);
    dueTold(x, 0, 1, 2, 3, 4, 7);
    dueTold(x, 1, 5, 6);
    dueTold(x, 2, 0, 8, 9);
  }

  // "ENDS of new ARCS come behind their nodes' rows": also rows that were told otherwise.
  private static void promise21NewEndsComeBehind() {
    PlaneTests x = Graphs.graph(2, 0, 1, 0, 1);
    x.swap(0, 0, 1);
    x.arc(1, 0);
    dueTold(x, 0, 2, 0, 5);
    dueTold(x, 1, 1, 3, 4);
    x.take();
    dueTold(x, 0, 0, 2, 5);
    dueTold(x, 1, 4, 3, 1);
    x.arc(0, 1);
    dueTold(x, 0, 0, 2, 5, 6);
    dueTold(x, 1, 4, 3, 1, 7);
  }

  // "the one with 2 k first": of a LOOP both come behind the same row.
  private static void promise21OfALoopTheLesserEndFirst() {
    PlaneTests x = Graphs.graph(1, 0, 0);
    dueTold(x, 0, 0, 1);
    x.swap(0, 0, 1);
    x.arc(0, 0);
    dueTold(x, 0, 1, 0, 2, 3);
  }

  // "An ARC is no more": the other ENDS stay in the order that was told.
  private static void promise21WhatWasCutIsInNoRow() {
    PlaneTests x = Graphs.graph(2, 0, 0, 0, 1, 0, 0, 1, 1);
    x.swap(0, 0, 4);
    x.swap(0, 1, 3);
    dueTold(x, 0, 5, 4, 2, 1, 0);
    x.cut(2);
    dueTold(x, 0, 2, 1, 0);
    dueTold(x, 1, 3, 6, 7);
    x.cut(1);
    dueTold(x, 0, 1, 0);
    dueTold(x, 1, 6, 7);
    x.cut(0);
    dueTold(x, 0);
    dueTold(x, 1, 6, 7);
  }

  // "-1 (node, place)"
  private static void promise21NoSuchNodeOrPlace() {
    PlaneTests x = Graphs.graph(3, 0, 1);
    due("node 3", x.told(3, 0), -1);
    due("place 1", x.told(0, 1), -1);
    due("a node without ends", x.told(2, 0), -1);
    for (int bad : Graphs.FAR) {
      due("node " + bad, x.told(bad, 0), -1);
      due("place " + bad, x.told(0, bad), -1);
      due("both " + bad, x.told(bad, bad), -1);
    }
    due("without nodes", new PlaneTests().told(0, 0), -1);
    due("node 20", Graphs.graph(20, 19, 19).told(20, 0), -1);
    due("node 19", Graphs.graph(20, 19, 19).told(19, 1), 1);
  }

  // "-1 (node, place)": the longest row has 160.
  private static void promise21TheLongestRow() {
    PlaneTests x = eightyLoops();
    for (int e = 0; e < 160; e++) due("told", x.told(0, e), e);
    due("behind the row", x.told(0, 160), -1);
    x.cut(0);
    due("behind the row", x.told(0, 158), -1);
    due("the first", x.told(0, 0), 2);
    due("the last", x.told(0, 157), 159);
  }

  // "-1 (node, place)" alone: it does not matter whether it is PLANE.
  private static void promise21WhereItIsNotPlane() {
    dueTold(Graphs.graph(5, Graphs.K5), 2, 3, 9, 14, 16);
    dueTold(Graphs.graph(6, Graphs.K33), 5, 5, 11, 17);
  }

  // ---- 22: swap

  // "ENDS i and j .. change places: 1.": neighbours, the first and the last, either way.
  private static void promise22ChangePlaces() {
    PlaneTests x = Graphs.graph(4, 0, 1, 0, 2, 0, 3, 0, 0);
    due("first and last", x.swap(0, 0, 4), 1);
    dueTold(x, 0, 7, 2, 4, 6, 0);
    due("told the other way", x.swap(0, 3, 1), 1);
    dueTold(x, 0, 7, 6, 4, 2, 0);
    due("back", x.swap(0, 4, 0), 1);
    dueTold(x, 0, 0, 6, 4, 2, 7);
    for (int v = 1; v < 4; v++) dueTold(x, v, 2 * v - 1);
  }

  // "ENDS i and j": perhaps the same one.
  private static void promise22TheSamePlaceTwice() {
    PlaneTests x = Graphs.graph(2, 0, 1, 0, 1);
    due("swap", x.swap(0, 1, 1), 1);
    dueTold(x, 0, 0, 2);
    due("a row of one", Graphs.graph(2, 0, 1).swap(1, 0, 0), 1);
  }

  // "-1 (node, place)": either place may be none.
  private static void promise22NoSuchNodeOrPlace() {
    PlaneTests x = Graphs.graph(3, 0, 1, 0, 1);
    due("node 3", x.swap(3, 0, 0), -1);
    due("place i", x.swap(0, 2, 0), -1);
    due("place j", x.swap(0, 0, 2), -1);
    due("both places", x.swap(0, 2, 2), -1);
    due("a node without ends", x.swap(2, 0, 0), -1);
    for (int bad : Graphs.FAR) {
      due("node " + bad, x.swap(bad, 0, 1), -1);
      due("place i " + bad, x.swap(0, bad, 1), -1);
      due("place j " + bad, x.swap(0, 1, bad), -1);
      due("both places " + bad, x.swap(0, bad, bad), -1);
    }
    due("without nodes", new PlaneTests().swap(0, 0, 0), -1);
    due("node 20", Graphs.graph(20, 19, 19).swap(20, 0, 1), -1);
  }

  // "REFUSALS change nothing": also where one of the places is right.
  private static void promise22ARefusedSwapChangesNoRow() {
    PlaneTests x = Graphs.graph(2, 0, 1, 0, 1, 0, 0);
    x.swap(0, 0, 2);
    x.swap(0, 0, 4);
    x.swap(0, 4, 0);
    x.swap(0, -1, 1);
    x.swap(1, 1, 2);
    dueTold(x, 0, 4, 2, 0, 5);
    dueTold(x, 1, 1, 3);
  }

  // "-1 (node, place)": the longest row has 160.
  private static void promise22TheLongestRow() {
    PlaneTests x = eightyLoops();
    due("behind the row", x.swap(0, 0, 160), -1);
    due("behind the row", x.swap(0, 160, 0), -1);
    due("first and last", x.swap(0, 0, 159), 1);
    due("the first", x.told(0, 0), 159);
    due("the last", x.told(0, 159), 0);
  }

  // "-1 (node, place)" alone: it does not matter whether it is PLANE.
  private static void promise22WhereItIsNotPlane() {
    PlaneTests x = Graphs.graph(5, Graphs.K5);
    due("swap", x.swap(4, 0, 3), 1);
    dueTold(x, 4, 19, 13, 17, 7);
  }

  // ---- 23: take

  // "All rows of the TURNS told become those of THE TURNS": those that were told otherwise too.
  private static void promise23AllRows() {
    PlaneTests x = Graphs.graph(4, 2, 2, 1, 0, 0, 1, 3, 1, 1, 3, 3, 0);
    for (int v = 0; v < 4; v++) x.swap(v, 0, 1);
    due("take", x.take(), 1);
    for (int v = 0; v < 4; v++) {
      for (int k = 0; k <= x.degree(v); k++) {
        due("told(" + v + ", " + k + ")", x.told(v, k), x.turn(v, k));
      }
    }
    dueTold(x, 0, 3, 4, 11);
    dueTold(x, 1, 5, 2, 7, 8);
    dueTold(x, 2, 0, 1);
    dueTold(x, 3, 10, 9, 6);
    dueGenus("taken", x, 0, 6);
  }

  // "-3 it is not PLANE", "REFUSALS change nothing"
  private static void promise23NotPlane() {
    PlaneTests x = Graphs.graph(5, Graphs.K5);
    x.swap(0, 0, 3);
    due("take", x.take(), -3);
    dueTold(x, 0, 6, 2, 4, 0);
    dueTold(x, 1, 1, 8, 10, 12);
    x.cut(9);
    due("plane", x.take(), 1);
    due("genus", x.genus(), 0);
    x.arc(3, 4);
    due("not plane again", x.take(), -3);
    due("the last row's last END", x.told(4, 3), 21);
  }

  // "All rows": of none, of nodes without ENDS, of the longest.
  private static void promise23RowsWithoutEnds() {
    due("no nodes", new PlaneTests().take(), 1);
    PlaneTests x = Graphs.graph(20);
    due("no arcs", x.take(), 1);
    dueGenus("no arcs", x, 0, 20);
    PlaneTests loops = eightyLoops();
    for (int k = 0; k < 40; k++) loops.swap(0, 4 * k + 1, 4 * k + 2);
    due("eighty loops", loops.take(), 1);
    for (int e = 0; e < 160; e++) due("told", loops.told(0, e), e);
    dueGenus("eighty loops", loops, 0, 81);
  }

  // "become those of THE TURNS": once, they do not follow them.
  private static void promise23LaterArcsComeBehind() {
    PlaneTests x = Graphs.graph(3, 0, 2, 0, 1);
    due("take", x.take(), 1);
    dueTold(x, 0, 2, 0);
    x.arc(1, 0);
    dueTold(x, 0, 2, 0, 5);
    CHECKS.dueRow("turn", k -> x.turn(0, k), 2, 5, 0);
    x.swap(0, 0, 1);
    dueTold(x, 0, 0, 2, 5);
    CHECKS.dueRow("turn", k -> x.turn(0, k), 2, 5, 0);
    due("take again", x.take(), 1);
    dueTold(x, 0, 2, 5, 0);
  }

  // ---- 24 and 25: genus and toldFaces

  // "GENUS by TURNS: half of (2 C - V + A - F)": no nodes, no ARCS.
  private static void promise24WithoutArcs() {
    for (int n = 0; n <= 20; n++) due(n + " nodes", Graphs.graph(n).genus(), 0);
  }

  // "How many FACES there are by the TURNS told.": "a FACE without ENDS for each node without ARCS"
  private static void promise25WithoutArcs() {
    for (int n = 0; n <= 20; n++) due(n + " nodes", Graphs.graph(n).toldFaces(), n);
    due("a loop and two nodes", Graphs.graph(3, 1, 1).toldFaces(), 4);
  }

  // "half of (2 C - V + A - F)": the greatest there can be.
  private static void promise24TheGreatest() {
    PlaneTests x = eightyLoops();
    due("side by side", x.genus(), 0);
    for (int k = 0; k < 40; k++) {
      x.swap(0, 4 * k + 1, 4 * k + 2);
      due("pairs over one another", x.genus(), k + 1);
    }
    x.cut(79);
    due("one less", x.genus(), 39);
  }

  // "half of (2 C - V + A - F)": ALIKE ARCS by numbers.
  private static void promise24AlikeArcsByNumbers() {
    PlaneTests x = Graphs.graph(2);
    for (int k = 1; k <= 80; k++) {
      x.arc(0, 1);
      due(k + " alike", x.genus(), (k - 1) / 2);
      due(k + " alike: faces", x.toldFaces(), 2 - k % 2);
    }
    due("taken", x.take(), 1);
    dueGenus("taken", x, 0, 80);
  }

  // "C being how many connected parts the GRAPH has": handles of all parts are added up, and a LOOP
  // connects nothing.
  private static void promise24ConnectedParts() {
    PlaneTests x = Graphs.graph(20);
    for (int k = 0; k < 80; k++) x.arc(k / 4, k / 4);
    dueGenus("four loops at each node", x, 0, 100);
    for (int v = 0; v < 20; v++) {
      x.swap(v, 1, 2);
      x.swap(v, 5, 6);
    }
    dueGenus("two handles at each node", x, 40, 20);
    PlaneTests y = Graphs.graph(11, Graphs.K33);
    Graphs.arcs(y, 6, Graphs.K5);
    dueGenus("two parts", y, 3, 6);
    y.arc(0, 6);
    dueGenus("joined", y, 3, 5);
  }

  // "for each node its ENDS in a row, which is thought round": where it begins does not matter.
  private static void promise24RowsAreThoughtRound() {
    PlaneTests x = Graphs.graph(4, Graphs.K4);
    dueGenus("by numbers", x, 1, 2);
    // 0 2 4 becomes 2 4 0
    x.swap(0, 0, 1);
    x.swap(0, 1, 2);
    dueGenus("turned on", x, 1, 2);
    x.swap(1, 1, 2);
    x.swap(3, 1, 2);
    dueGenus("as THE TURNS are", x, 0, 4);
    // 1 8 6 becomes 6 1 8
    x.swap(1, 0, 2);
    x.swap(1, 1, 2);
    dueGenus("turned back", x, 0, 4);
  }

  // "behind the last one the first": rows of one and of two ENDS.
  private static void promise25BehindTheLastEndTheFirst() {
    due("one arc", Graphs.graph(2, 0, 1).toldFaces(), 1);
    due("a loop", Graphs.graph(1, 0, 0).toldFaces(), 2);
    due("a path", Graphs.graph(20, Graphs.path(20)).toldFaces(), 1);
    due("a round", Graphs.graph(20, Graphs.cycle(20)).toldFaces(), 2);
    PlaneTests x = Graphs.graph(20, Graphs.cycle(20));
    for (int v = 0; v < 20; v++) x.swap(v, 0, 1);
    due("a round, all rows turned", x.toldFaces(), 2);
  }

  // "How many FACES there are by the TURNS told.": the most there can be.
  private static void promise25TheMostFaces() {
    PlaneTests x = eightyLoops();
    due("eighty loops", x.toldFaces(), 81);
    for (int v = 1; v < 20; v++) x.node();
    due("and nineteen nodes", x.toldFaces(), 100);
    x.cut(0);
    due("one less", x.toldFaces(), 99);
  }

  // Neither has a refusal: it does not matter whether it is PLANE.
  private static void promise24WhereItIsNotPlane() {
    dueGenus("five", Graphs.graph(5, Graphs.K5), 2, 3);
    dueGenus("six", Graphs.graph(6, Graphs.K33), 1, 3);
    // with the row of 0 turned one FACE goes over all eighteen ENDS
    PlaneTests x = Graphs.graph(6, Graphs.K33);
    x.swap(0, 0, 1);
    dueGenus("six, one row turned", x, 2, 1);
  }

  // An ARC more and an ARC less are in the answers at once.
  private static void promise25OfTheGraphAsItIs() {
    PlaneTests x = Graphs.graph(2, 0, 1);
    due("an arc", x.toldFaces(), 1);
    x.arc(0, 1);
    due("two", x.toldFaces(), 2);
    x.arc(0, 1);
    due("three", x.toldFaces(), 1);
    x.swap(0, 0, 1);
    due("three, turned", x.toldFaces(), 3);
    x.cut(1);
    due("two", x.toldFaces(), 2);
    x.cut(0);
    x.cut(2);
    due("none", x.toldFaces(), 2);
    x.clear();
    due("no nodes", x.toldFaces(), 0);
  }
}
