/**
 * Promises 17 to 20 at their edges: each test is of one sentence of the document, which stands
 * above it.
 */
public final class BarredEdgesTest {
  private static final Checks CHECKS = new Checks();
  private static final int[] K6 = {0, 1, 0, 2, 0, 3, 0, 4, 0, 5, 1, 2, 1, 3, 1, 4, 1, 5, 2, 3, 2,
    4, 2, 5, 3, 4, 3, 5, 4, 5};

  public static void main(String[] args) {
    CHECKS.runAll(BarredEdgesTest.class);
  }

  private static void due(String what, long got, long want) {
    CHECKS.due(what, got, want);
  }

  private static void duePiece(PlaneTests x, int... want) {
    CHECKS.dueRow("piece", x::piece, want);
  }

  private static void dueBranches(PlaneTests x, int... want) {
    CHECKS.dueRow("branch", x::branch, want);
  }

  private static int[] fromTo(int first, int last) {
    int[] row = new int[last - first + 1];
    for (int i = 0; i < row.length; i++) row[i] = first + i;
    return row;
  }

  /** The five of 0 to 4, all joined, 0 and 1 over all the other nodes: ARCS 9 to 24. */
  private static PlaneTests longStrand() {
    PlaneTests x = Graphs.graph(20);
    for (int i = 2; i < 20; i += 2) x.arc(Graphs.K5[i], Graphs.K5[i + 1]);
    x.arc(0, 5);
    for (int v = 5; v < 19; v++) x.arc(v + 1, v);
    x.arc(19, 1);
    return x;
  }

  // ---- 17: piece

  // "ARC k (0 the first, by numbers) of THE PIECE", "-1 there is none such"
  private static void promise17NoneSuch() {
    PlaneTests five = Graphs.graph(5, Graphs.K5);
    duePiece(five, fromTo(0, 9));
    for (int bad : Graphs.FAR) due("place " + bad, five.piece(bad), -1);
    duePiece(Graphs.graph(6, Graphs.K33), fromTo(0, 8));
  }

  // "-3 it is PLANE, -1 there is none such": in this order.
  private static void promise17WhichRefusalIsFirst() {
    PlaneTests x = Graphs.graph(4, Graphs.K4);
    due("plane", x.piece(0), -3);
    due("plane, none such", x.piece(6), -3);
    due("plane, none such", x.piece(-1), -3);
    due("without nodes", new PlaneTests().piece(0), -3);
    for (int bad : Graphs.FAR) due("plane, place " + bad, x.piece(bad), -3);
  }

  // "from the one with the greatest number down, each is left out with which it would not be PLANE
  // without it as well": of two alike the one with the lesser number stays.
  private static void promise17OfAlikeArcsTheFirstStays() {
    PlaneTests x = Graphs.graph(5, Graphs.K5);
    for (int i = 0; i < 20; i += 2) x.arc(Graphs.K5[i + 1], Graphs.K5[i]);
    duePiece(x, fromTo(0, 9));
    for (int k = 0; k < 10; k++) x.cut(k);
    duePiece(x, fromTo(10, 19));
  }

  // "each is left out with which ..": LOOPS never stay, though their numbers be the least.
  private static void promise17LoopsAreLeftOut() {
    PlaneTests x = Graphs.graph(5);
    for (int k = 0; k < 70; k++) x.arc(k % 5, k % 5);
    Graphs.arcs(x, 0, Graphs.K5);
    duePiece(x, fromTo(70, 79));
  }

  // "of its ARCS": one that was cut is none of them.
  private static void promise17ThoseThatWereCut() {
    PlaneTests x = Graphs.graph(5, Graphs.K5);
    x.arc(1, 0);
    duePiece(x, fromTo(0, 9));
    x.cut(0);
    duePiece(x, fromTo(1, 10));
    x.cut(5);
    due("plane", x.piece(0), -3);
    x.arc(3, 1);
    duePiece(x, 1, 2, 3, 4, 6, 7, 8, 9, 10, 11);
  }

  // "of its ARCS": those with the greatest numbers go first, however many were cut.
  private static void promise17ManyCutsAheadOfThePiece() {
    PlaneTests x = Graphs.graph(6);
    Graphs.alike(x, 5, 5, 60);
    for (int k = 0; k < 60; k++) x.cut(k);
    Graphs.arcs(x, 0, Graphs.K5);
    Graphs.arcs(x, 0, 0, 0, 1, 0, 4, 3, 5, 5);
    duePiece(x, fromTo(60, 69));
    dueBranches(x, 0, 1, 2, 3, 4);
    due("the last arc is not in it", x.strand(73), -3);
  }

  // "from the one with the greatest number down": which of two barred pieces stays.
  private static void promise17TheGreatestNumberFirst() {
    PlaneTests x = Graphs.graph(6, K6);
    duePiece(x, 2, 3, 4, 6, 7, 8, 9, 10, 11);
    PlaneTests y = Graphs.graph(11);
    Graphs.arcs(y, 6, Graphs.K5);
    Graphs.arcs(y, 0, Graphs.K33);
    duePiece(y, fromTo(0, 9));
    PlaneTests z = Graphs.graph(11, Graphs.K33);
    Graphs.arcs(z, 6, Graphs.K5);
    duePiece(z, fromTo(0, 8));
  }

  // "-1 there is none such": the longest PIECE, over all twenty nodes.
  private static void promise17TheLongestPiece() {
    PlaneTests x = longStrand();
    Graphs.alike(x, 0, 1, 1);
    // arc 25 joins 0 and 1, but those with lesser numbers stay
    duePiece(x, fromTo(0, 24));
    due("cut", x.cut(17), 25);
    int[] short10 = fromTo(0, 9);
    short10[9] = 25;
    duePiece(x, short10);
  }

  // ---- 18: barred

  // "0 if it is PLANE"
  private static void promise18Plane() {
    due("without nodes", new PlaneTests().barred(), 0);
    due("twenty nodes", Graphs.graph(20).barred(), 0);
    due("four", Graphs.graph(4, Graphs.K4).barred(), 0);
    due("full", Graphs.graph(20, Graphs.fullPlane(20)).barred(), 0);
    PlaneTests x = Graphs.graph(5, Graphs.K5);
    due("five", x.barred(), 5);
    x.cut(9);
    due("less one", x.barred(), 0);
    x.arc(4, 3);
    due("as before", x.barred(), 5);
  }

  // "BARRED 5, if there are five of them, each with four, else 6 (six, each with three)"
  private static void promise18FiveOrSix() {
    due("five", Graphs.graph(5, Graphs.K5).barred(), 5);
    due("six", Graphs.graph(6, Graphs.K33).barred(), 6);
    due("five over all nodes", longStrand().barred(), 5);
    due("all six joined", Graphs.graph(6, K6).barred(), 6);
    PlaneTests x = Graphs.graph(11, Graphs.K33);
    Graphs.arcs(x, 6, Graphs.K5);
    due("the six has the lesser numbers", x.barred(), 6);
    x.cut(0);
    due("the five alone", x.barred(), 5);
    PlaneTests y = Graphs.graph(11);
    Graphs.arcs(y, 6, Graphs.K5);
    Graphs.arcs(y, 0, Graphs.K33);
    due("the five has the lesser numbers", y.barred(), 5);
    y.cut(0);
    due("the six alone", y.barred(), 6);
  }

  // "BRANCHES are its nodes with three or more ENDS": in THE PIECE, not in the graph.
  private static void promise18EndsInThePieceCount() {
    PlaneTests x = Graphs.graph(20, Graphs.K33);
    for (int v = 6; v < 20; v++) {
      x.arc(v, 0);
      x.arc(v, v);
      x.arc(v, 1);
    }
    due("many more ends", x.barred(), 6);
    dueBranches(x, 0, 1, 2, 3, 4, 5);
  }

  // ---- 19: branch

  // "BRANCH k (by numbers)", "-1 there is none such"
  private static void promise19NoneSuch() {
    PlaneTests five = Graphs.graph(20);
    Graphs.arcs(five, 15, Graphs.K5);
    dueBranches(five, 15, 16, 17, 18, 19);
    for (int bad : Graphs.FAR) due("place " + bad, five.branch(bad), -1);
    PlaneTests six = Graphs.graph(20, 19, 2, 19, 5, 19, 7, 0, 2, 0, 5, 0, 7, 11, 2, 11, 5, 11, 7);
    dueBranches(six, 0, 2, 5, 7, 11, 19);
  }

  // "-3 it is PLANE, -1 there is none such": in this order.
  private static void promise19WhichRefusalIsFirst() {
    PlaneTests x = Graphs.graph(4, Graphs.K4);
    due("plane", x.branch(0), -3);
    due("plane, none such", x.branch(-1), -3);
    for (int bad : Graphs.FAR) due("plane, place " + bad, x.branch(bad), -3);
    due("without nodes", new PlaneTests().branch(0), -3);
  }

  // "BRANCHES are its nodes with three or more ENDS": those on STRANDS have two.
  private static void promise19NodesOnStrandsAreNone() {
    dueBranches(longStrand(), 0, 1, 2, 3, 4);
    // the six over 0, and over 1 and 2
    PlaneTests x = Graphs.graph(9, 3, 0, 0, 6, 3, 1, 1, 2, 2, 7, 3, 8, 4, 6, 4, 7, 4, 8, 5, 6, 5, 7,
        5, 8);
    dueBranches(x, 3, 4, 5, 6, 7, 8);
  }

  // ---- 20: strand

  // "the lesser times 32, and the greater": whichever way the ARC is told.
  private static void promise20TheLesserTimes32() {
    PlaneTests five = Graphs.graph(20);
    for (int i = 0; i < 20; i += 2) five.arc(15 + Graphs.K5[i + 1], 15 + Graphs.K5[i]);
    due("15 and 16", five.strand(0), 15 * 32 + 16);
    due("18 and 19", five.strand(9), 18 * 32 + 19);
    PlaneTests six = Graphs.graph(20, 19, 2, 5, 19, 19, 7, 2, 0, 0, 5, 7, 0, 11, 2, 11, 5, 11, 7);
    due("2 and 19", six.strand(0), 2 * 32 + 19);
    due("5 and 19", six.strand(1), 5 * 32 + 19);
    due("0 and 2", six.strand(3), 2);
    due("7 and 11", six.strand(8), 7 * 32 + 11);
  }

  // "STRANDS are its ways from BRANCH to BRANCH": each ARC of the longest one.
  private static void promise20TheLongestStrand() {
    PlaneTests x = longStrand();
    for (int k = 9; k < 25; k++) due("arc " + k, x.strand(k), 1);
    due("another one", x.strand(0), 2);
    due("another one", x.strand(8), 3 * 32 + 4);
    due("not made yet", x.strand(25), -1);
  }

  // "its ways from BRANCH to BRANCH": over the first ARC of all, and over the last.
  private static void promise20StrandsOverTheFirstAndTheLastArc() {
    PlaneTests x = Graphs.graph(7, 5, 0);
    Graphs.arcs(x, 0, 0, 2, 0, 3, 0, 4, 1, 2, 1, 3, 1, 4, 2, 3, 2, 4);
    Graphs.arcs(x, 0, 3, 6, 5, 1, 4, 6);
    due("0 to 5", x.strand(0), 1);
    due("5 to 1", x.strand(10), 1);
    due("3 to 6", x.strand(9), 3 * 32 + 4);
    due("6 to 4", x.strand(11), 3 * 32 + 4);
  }

  // "its ways from BRANCH to BRANCH": however many ARCS were cut ahead of them.
  private static void promise20StrandsBehindManyCuts() {
    PlaneTests x = Graphs.graph(20);
    Graphs.alike(x, 0, 19, 50);
    for (int k = 0; k < 50; k++) x.cut(k);
    for (int i = 2; i < 18; i += 2) x.arc(Graphs.K33[i], Graphs.K33[i + 1]);
    x.arc(3, 19);
    for (int v = 19; v > 6; v--) x.arc(v - 1, v);
    x.arc(6, 0);
    for (int k = 58; k < 73; k++) due("arc " + k, x.strand(k), 3);
    due("not made yet", x.strand(73), -1);
    due("cut", x.strand(49), -1);
  }

  // "-1 there is no such ARC": also one that was cut.
  private static void promise20NoSuchArc() {
    PlaneTests x = Graphs.graph(5, Graphs.K5);
    due("not made yet", x.strand(10), -1);
    for (int bad : Graphs.FAR) due("arc " + bad, x.strand(bad), -1);
    x.arc(0, 1);
    x.cut(0);
    due("cut", x.strand(0), -1);
    due("in its stead", x.strand(10), 1);
    due("without nodes", new PlaneTests().strand(0), -1);
  }

  // "or the ARC is not in THE PIECE"
  private static void promise20NotInThePiece() {
    PlaneTests x = Graphs.graph(20, Graphs.K5);
    x.arc(0, 0);
    x.arc(1, 0);
    x.arc(10, 11);
    x.arc(4, 10);
    due("the last one in it", x.strand(9), 3 * 32 + 4);
    due("a loop", x.strand(10), -3);
    due("an alike one", x.strand(11), -3);
    due("of another part", x.strand(12), -3);
    due("one that leads away", x.strand(13), -3);
    due("not made yet", x.strand(14), -1);
  }

  // "-1 there is no such ARC, -3 it is PLANE": in this order.
  private static void promise20WhichRefusalIsFirst() {
    PlaneTests x = Graphs.graph(5, Graphs.K5);
    x.cut(3);
    due("plane", x.strand(0), -3);
    due("cut, plane", x.strand(3), -1);
    due("no such, plane", x.strand(10), -1);
    due("no such, plane", x.strand(-1), -1);
    due("no such, not plane", Graphs.graph(6, Graphs.K33).strand(9), -1);
  }

  // "ARCS 0, 1, .. (80 at most": the last of all.
  private static void promise20TheLastArc() {
    PlaneTests x = Graphs.graph(5);
    for (int k = 0; k < 70; k++) x.arc(k % 5, k % 5);
    Graphs.arcs(x, 0, Graphs.K5);
    due("79", x.strand(79), 3 * 32 + 4);
    due("80", x.strand(80), -1);
    due("69", x.strand(69), -3);
  }
}
