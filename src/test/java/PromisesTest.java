/**
 * Promise by promise: ordinary inputs and the nearest wrong ones, with answers found by hand. The
 * edges have tests of their own in the EdgesTests and in RefusalsTest.
 */
public final class PromisesTest {
  private static final Checks CHECKS = new Checks();
  private static final int[] WRONG = {-1, Integer.MIN_VALUE, Integer.MAX_VALUE, 1000};

  public static void main(String[] args) {
    CHECKS.runAll(PromisesTest.class);
  }

  private static void due(String what, long got, long want) {
    CHECKS.due(what, got, want);
  }

  private static void dueTurns(String what, PlaneTests x, int node, int... want) {
    CHECKS.dueRow(what + ": turn of " + node, k -> x.turn(node, k), want);
  }

  private static void dueFace(String what, PlaneTests x, int face, int... want) {
    CHECKS.dueRow(what + ": face " + face, i -> x.face(face, i), want);
  }

  private static void dueRound(String what, PlaneTests x, int node, int... want) {
    CHECKS.dueRow(what + ": round of " + node, k -> x.round(node, k), want);
  }

  private static void dueTold(String what, PlaneTests x, int node, int... want) {
    CHECKS.dueRow(what + ": told of " + node, k -> x.told(node, k), want);
    due(what + ": degree", x.degree(node), want.length);
  }

  private static void duePlace(String what, PlaneTests x, int node, int wantX, int wantY) {
    due(what + ": x of " + node, x.place(node, 0), wantX);
    due(what + ": y of " + node, x.place(node, 1), wantY);
  }

  private static void promise01NewObject() {
    PlaneTests x = new PlaneTests();
    due("1: clear", x.clear(), 0);
    due("1: degree(0)", x.degree(0), -1);
    due("1: test", x.test(), 1);
    due("1: outer", x.outer(), 1);
    due("1: faces", x.faces(), 0);
    due("1: arc", x.arc(0, 0), -1);
    due("1: first node", x.node(), 0);
  }

  private static void promise02Node() {
    PlaneTests x = new PlaneTests();
    for (int v = 0; v < 20; v++) due("2: node", x.node(), v);
    due("2: no room", x.node(), -4);
    due("2: no room again", x.node(), -4);
    due("2: no node 20", x.degree(20), -1);
    due("2: node 19", x.degree(19), 0);
    due("2: faces of lone nodes", x.faces(), 20);
    due("2: a node alone gives a face more", Graphs.graph(3, 0, 1).faces(), 2);
  }

  private static void promise03Arc() {
    PlaneTests x = Graphs.graph(3);
    due("3: arc", x.arc(0, 1), 0);
    due("3: alike", x.arc(1, 0), 1);
    due("3: loop", x.arc(2, 2), 2);
    for (int bad : WRONG) {
      due("3: wrong from", x.arc(bad, 0), -1);
      due("3: wrong to", x.arc(0, bad), -1);
    }
    due("3: node 3", x.arc(0, 3), -1);
    due("3: refusals take no number", x.arc(0, 2), 3);
    for (int k = 4; k < 80; k++) due("3: arc", x.arc(k % 3, (k + 1) % 3), k);
    due("3: no room", x.arc(0, 1), -4);
    due("3: no such node comes first", x.arc(0, 3), -1);
    due("3: cut", x.cut(79), 79);
    due("3: what was cut counts", x.arc(0, 1), -4);
    due("3: clear", x.clear(), 3);
    x.node();
    due("3: from 0 on", x.arc(0, 0), 0);
  }

  private static void promise04Cut() {
    PlaneTests x = Graphs.graph(5, Graphs.K5);
    due("4: not plane", x.test(), 0);
    due("4: cut", x.cut(9), 9);
    due("4: plane", x.test(), 1);
    due("4: again", x.cut(9), -1);
    due("4: not made yet", x.cut(10), -1);
    for (int bad : WRONG) due("4: wrong", x.cut(bad), -1);
    due("4: a number does not come again", x.arc(3, 4), 10);
    due("4: not plane again", x.test(), 0);
    due("4: cut", x.cut(0), 9);
    due("4: degree", x.degree(0), 3);
    due("4: no dual of it", x.dual(0, 0), -1);
    PlaneTests y = Graphs.graph(1, 0, 0);
    due("4: the last one", y.cut(0), 0);
    due("4: a face without ends", y.faces(), 1);
  }

  private static void promise05Clear() {
    PlaneTests x = Graphs.graph(5, Graphs.K5);
    x.swap(0, 0, 1);
    due("5: clear", x.clear(), 5);
    due("5: clear again", x.clear(), 0);
    due("5: plane", x.test(), 1);
    due("5: genus", x.genus(), 0);
    due("5: no arc", x.cut(0), -1);
    for (int v = 0; v < 5; v++) due("5: node", x.node(), v);
    due("5: no ends", x.degree(0), 0);
    due("5: arc", x.arc(0, 1), 0);
    dueTold("5: told anew", x, 0, 0);
    due("5: barred", x.barred(), 0);
  }

  private static void promise06Test() {
    due("6: no nodes", new PlaneTests().test(), 1);
    due("6: K4", Graphs.graph(4, Graphs.K4).test(), 1);
    due("6: K5", Graphs.graph(5, Graphs.K5).test(), 0);
    due("6: K33", Graphs.graph(6, Graphs.K33).test(), 0);
    for (int k = 0; k < 10; k++) {
      PlaneTests x = Graphs.graph(5, Graphs.K5);
      x.cut(k);
      due("6: K5 less " + k, x.test(), 1);
      x.arc(0, 0);
      x.arc(0, 1);
      x.arc(1, 0);
      due("6: with loops and alike ones", x.test(), k == 0 ? 0 : 1);
    }
    for (int k = 0; k < 9; k++) {
      PlaneTests x = Graphs.graph(6, Graphs.K33);
      x.cut(k);
      due("6: K33 less " + k, x.test(), 1);
    }
    // K5 with a node on each of its ten arcs
    PlaneTests x = Graphs.graph(15);
    for (int k = 0; k < 10; k++) {
      x.arc(Graphs.K5[2 * k], 5 + k);
      x.arc(5 + k, Graphs.K5[2 * k + 1]);
    }
    due("6: K5 with nodes on it", x.test(), 0);
    x.cut(13);
    due("6: less one", x.test(), 1);
    // two parts, the second of which is K33
    PlaneTests y = Graphs.graph(12, 0, 1, 1, 2, 2, 0);
    for (int i = 0; i < Graphs.K33.length; i += 2) y.arc(6 + Graphs.K33[i], 6 + Graphs.K33[i + 1]);
    due("6: a part is not plane", y.test(), 0);
    PlaneTests z = Graphs.graph(6, 0, 1, 0, 2, 0, 3, 0, 4, 5, 1, 5, 2, 5, 3, 5, 4, 1, 2, 2, 3, 3, 4,
        4, 1);
    due("6: the octahedron", z.test(), 1);
  }

  private static void promise07Outer() {
    due("7: one node", Graphs.graph(1).outer(), 1);
    due("7: K4", Graphs.graph(4, Graphs.K4).outer(), 0);
    PlaneTests x = Graphs.graph(4, Graphs.K4);
    x.cut(5);
    due("7: K4 less one", x.outer(), 1);
    x.arc(3, 3);
    x.arc(0, 1);
    due("7: loops and alike ones", x.outer(), 1);
    due("7: K23", Graphs.graph(5, Graphs.K23).outer(), 0);
    due("7: K5", Graphs.graph(5, Graphs.K5).outer(), 0);
    PlaneTests y = Graphs.graph(20);
    for (int v = 0; v < 20; v++) y.arc(v, (v + 1) % 20);
    due("7: a round of all 20 nodes", y.outer(), 1);
    y.arc(0, 10);
    due("7: with a chord", y.outer(), 1);
    y.arc(5, 15);
    due("7: two chords that cross", y.outer(), 0);
    due("7: plane all the same", y.test(), 1);
    due("7: no node more stays", y.node(), -4);
    due("7: the degree stays", y.degree(0), 3);
  }

  private static void promise08Degree() {
    PlaneTests x = Graphs.graph(3, 0, 1, 1, 0, 1, 1);
    due("8: degree", x.degree(0), 2);
    due("8: a loop counts twice", x.degree(1), 4);
    due("8: none", x.degree(2), 0);
    due("8: no such", x.degree(3), -1);
    for (int bad : WRONG) due("8: wrong", x.degree(bad), -1);
    x.cut(2);
    due("8: less a loop", x.degree(1), 2);
    due("8: also where it is not plane", Graphs.graph(5, Graphs.K5).degree(4), 4);
  }

  private static void promise09Turn() {
    PlaneTests x = Graphs.graph(4, Graphs.K4);
    dueTurns("9: K4", x, 0, 0, 2, 4);
    dueTurns("9: K4", x, 1, 1, 8, 6);
    dueTurns("9: K4", x, 2, 3, 7, 10);
    dueTurns("9: K4", x, 3, 5, 11, 9);
    for (int bad : WRONG) {
      due("9: wrong node", x.turn(bad, 0), -1);
      due("9: wrong place", x.turn(0, bad), -1);
    }
    x.arc(2, 2);
    x.arc(1, 0);
    x.arc(0, 1);
    x.arc(2, 3);
    x.arc(2, 2);
    dueTurns("9: alike ones rise", x, 0, 0, 15, 16, 2, 4);
    dueTurns("9: alike ones fall", x, 1, 17, 14, 1, 8, 6);
    dueTurns("9: loops behind", x, 2, 3, 7, 10, 18, 12, 13, 20, 21);
    dueTurns("9: alike ones fall", x, 3, 5, 19, 11, 9);
    x.cut(0);
    dueTurns("9: less one", x, 0, 15, 16, 2, 4);
    // ROUND of node 4 is 0, 2, 1: its row begins as ROUND does, not at its own least one
    PlaneTests y = Graphs.graph(5, 4, 1, 4, 2);
    dueTurns("9: as in ROUND", y, 4, 2, 0);
    dueTurns("9: no ends", y, 0);
    PlaneTests z = Graphs.graph(5, Graphs.K5);
    due("9: no such node comes first", z.turn(5, 0), -1);
    due("9: not plane", z.turn(4, 0), -3);
    due("9: not plane comes ahead of the place", z.turn(4, 9), -3);
  }

  private static void promise10And11Faces() {
    PlaneTests x = Graphs.graph(4, Graphs.K4);
    due("10: K4", x.faces(), 4);
    dueFace("11: K4", x, 0, 0, 8, 5);
    dueFace("11: K4", x, 1, 1, 2, 7);
    dueFace("11: K4", x, 2, 3, 4, 11);
    dueFace("11: K4", x, 3, 6, 10, 9);
    due("11: no such face", x.face(4, 0), -1);
    for (int bad : WRONG) {
      due("11: wrong face", x.face(bad, 0), -1);
      due("11: wrong place", x.face(0, bad), -1);
    }
    // two nodes without arcs, 1 and 3, have the last faces
    PlaneTests y = Graphs.graph(4, 0, 2, 0, 0);
    due("10: with lone nodes", y.faces(), 4);
    dueFace("11: round the loop", y, 0, 0, 1, 2);
    dueFace("11: in the loop", y, 1, 3);
    dueFace("11: a lone node", y, 2);
    dueFace("11: a lone node", y, 3);
    due("11: no more", y.face(4, 0), -1);
    // each part has its own faces: these are not made one
    due("10: two rounds", Graphs.graph(6, 0, 1, 1, 2, 2, 0, 3, 4, 4, 5, 5, 3).faces(), 4);
    PlaneTests z = Graphs.graph(5, Graphs.K5);
    due("10: not plane", z.faces(), -3);
    due("11: not plane", z.face(0, 0), -3);
    due("11: not plane comes first", z.face(-1, -1), -3);
    PlaneTests w = Graphs.graph(1);
    for (int k = 0; k < 80; k++) w.arc(0, 0);
    due("10: eighty loops", w.faces(), 81);
    int[] evens = new int[80];
    for (int k = 0; k < 80; k++) evens[k] = 2 * k;
    dueFace("11: round all loops", w, 0, evens);
    dueFace("11: in a loop", w, 1, 1);
    dueFace("11: in a loop", w, 80, 159);
  }

  private static void promise12Round() {
    dueRound("12: one node", Graphs.graph(1), 0);
    PlaneTests two = Graphs.graph(2);
    dueRound("12: two nodes", two, 0, 1);
    dueRound("12: two nodes", two, 1, 0);
    PlaneTests three = Graphs.graph(3);
    dueRound("12: three nodes", three, 0, 1, 2);
    dueRound("12: three nodes", three, 1, 0, 2);
    dueRound("12: three nodes", three, 2, 0, 1);
    // five nodes: all are joined but 3 and 4
    PlaneTests x = Graphs.graph(5);
    dueRound("12: five nodes", x, 0, 1, 3, 2, 4);
    dueRound("12: five nodes", x, 1, 0, 4, 2, 3);
    dueRound("12: five nodes", x, 2, 0, 3, 1, 4);
    dueRound("12: five nodes", x, 3, 0, 1, 2);
    dueRound("12: five nodes", x, 4, 0, 2, 1);
    due("12: no such node", x.round(5, 0), -1);
    for (int bad : WRONG) {
      due("12: wrong node", x.round(bad, 0), -1);
      due("12: wrong place", x.round(0, bad), -1);
    }
    // with 3 and 4 joined 2 and 4 are not
    x.arc(3, 4);
    dueRound("12: other arcs", x, 4, 0, 3, 1);
    dueRound("12: other arcs", x, 0, 1, 2, 3, 4);
    PlaneTests y = Graphs.graph(5, Graphs.K5);
    due("12: not plane", y.round(0, 0), -3);
    due("12: not plane comes ahead of the place", y.round(0, -1), -3);
    due("12: no such node comes first", y.round(5, 0), -1);
  }

  private static void promise13Dual() {
    PlaneTests x = Graphs.graph(4, Graphs.K4);
    int[] want = {0, 1, 1, 2, 2, 0, 3, 1, 0, 3, 3, 2};
    for (int e = 0; e < 12; e++) {
      due("13: dual(" + e / 2 + ", " + e % 2 + ")", x.dual(e / 2, e % 2), want[e]);
    }
    for (int bad : WRONG) {
      due("13: wrong arc", x.dual(bad, 0), -1);
      due("13: wrong what", x.dual(0, bad), -2);
    }
    due("13: what 2", x.dual(0, 2), -2);
    due("13: no such arc comes first", x.dual(6, 2), -1);
    x.node();
    due("13: not connected", x.dual(0, 0), -3);
    due("13: what comes ahead of that", x.dual(0, 2), -2);
    x.arc(4, 4);
    due("13: a loop joins nothing", x.dual(0, 0), -3);
    x.arc(4, 0);
    due("13: connected again", x.dual(0, 0), 0);
    x.cut(6);
    due("13: that was cut", x.dual(6, 0), -1);
    due("13: a bridge has one face", x.dual(7, 0), x.dual(7, 1));
    PlaneTests y = Graphs.graph(5, Graphs.K5);
    due("13: not plane", y.dual(0, 0), -3);
    due("13: not plane, wrong what", y.dual(0, -1), -2);
    due("13: not plane, no arc", y.dual(10, 0), -1);
  }

  private static void promise14DualBack() {
    due("14: no nodes", new PlaneTests().dualBack(), -3);
    due("14: no arcs", Graphs.graph(1).dualBack(), -3);
    due("14: a loop", Graphs.graph(1, 0, 0).dualBack(), 1);
    due("14: K4", Graphs.graph(4, Graphs.K4).dualBack(), 1);
    due("14: a tree", Graphs.graph(4, 0, 1, 1, 2, 1, 3).dualBack(), 1);
    due("14: not connected", Graphs.graph(3, 0, 1).dualBack(), -3);
    due("14: two parts", Graphs.graph(4, 0, 1, 2, 3).dualBack(), -3);
    due("14: not plane", Graphs.graph(5, Graphs.K5).dualBack(), -3);
    PlaneTests y = Graphs.graph(3, 0, 1, 1, 0, 0, 0, 2, 2, 1, 2, 1, 2);
    due("14: loops and alike ones", y.dualBack(), 1);
    PlaneTests x = Graphs.graph(3, 0, 1, 1, 2, 2, 0);
    x.swap(0, 0, 1);
    due("14: told turns do not matter", x.dualBack(), 1);
  }

  private static void promise15Place() {
    duePlace("15: one node", Graphs.graph(1, 0, 0), 0, 0, 0);
    PlaneTests two = Graphs.graph(2);
    duePlace("15: two nodes", two, 0, 0, 0);
    duePlace("15: two nodes", two, 1, 1, 0);
    PlaneTests three = Graphs.graph(3);
    duePlace("15: three nodes", three, 0, 1, 0);
    duePlace("15: three nodes", three, 1, 0, 1);
    duePlace("15: three nodes", three, 2, 0, 0);
    PlaneTests four = Graphs.graph(4);
    duePlace("15: four nodes", four, 0, 3, 0);
    duePlace("15: four nodes", four, 1, 0, 3);
    duePlace("15: four nodes", four, 2, 0, 0);
    duePlace("15: four nodes", four, 3, 1, 1);
    // 0, 1, 2 are no face here: OUTER is 0, 1, 3
    PlaneTests five = Graphs.graph(5);
    duePlace("15: five nodes", five, 0, 5, 0);
    duePlace("15: five nodes", five, 1, 0, 5);
    duePlace("15: five nodes", five, 2, 1, 1);
    duePlace("15: five nodes", five, 3, 0, 0);
    duePlace("15: five nodes", five, 4, 2, 2);
    for (int bad : WRONG) {
      due("15: wrong node", five.place(bad, 0), -1);
      due("15: wrong axis", five.place(0, bad), -2);
    }
    due("15: axis 2", five.place(0, 2), -2);
    due("15: no such node comes first", five.place(5, 2), -1);
    PlaneTests x = Graphs.graph(5, Graphs.K5);
    due("15: not plane", x.place(0, 0), -3);
    due("15: the axis comes ahead of that", x.place(0, 2), -2);
    due("15: the node comes ahead of that", x.place(5, 0), -1);
    x.cut(9);
    duePlace("15: less one", x, 4, 2, 2);
  }

  private static void promise16Crossing() {
    due("16: no nodes", new PlaneTests().crossing(), 0);
    due("16: alike ones", Graphs.graph(2, 0, 1, 1, 0, 0, 0).crossing(), 0);
    due("16: K4", Graphs.graph(4, Graphs.K4).crossing(), 0);
    due("16: not plane", Graphs.graph(5, Graphs.K5).crossing(), -3);
    due("16: not plane", Graphs.graph(6, Graphs.K33).crossing(), -3);
    PlaneTests x = Graphs.graph(20);
    for (int v = 0; v < 20; v++) {
      x.arc(v, (v + 7) % 20);
      due("16: a long round", x.crossing(), 0);
    }
  }

  private static void promise17To19Piece() {
    PlaneTests x = k5WithMore();
    for (int k = 0; k < 11; k++) due("17: piece", x.piece(k), k);
    due("17: no more", x.piece(11), -1);
    for (int bad : WRONG) {
      due("17: wrong", x.piece(bad), -1);
      due("19: wrong", x.branch(bad), -1);
    }
    due("18: K5", x.barred(), 5);
    for (int k = 0; k < 5; k++) due("19: branch", x.branch(k), k);
    due("19: no more", x.branch(5), -1);
    x.cut(0);
    // arc 12 stands for arc 0 now
    for (int k = 0; k < 11; k++) due("17: piece", x.piece(k), k < 10 ? k + 1 : 12);
    // the lesser numbers stay: K33 of 5 .. 10 has them, K5 of 0 .. 4 the greater ones
    PlaneTests y = Graphs.graph(11);
    for (int i = 0; i < Graphs.K33.length; i += 2) y.arc(5 + Graphs.K33[i], 5 + Graphs.K33[i + 1]);
    for (int i = 0; i < Graphs.K5.length; i += 2) y.arc(Graphs.K5[i], Graphs.K5[i + 1]);
    due("18: K33", y.barred(), 6);
    for (int k = 0; k < 9; k++) due("17: piece", y.piece(k), k);
    due("17: no more", y.piece(9), -1);
    for (int k = 0; k < 6; k++) due("19: branch", y.branch(k), 5 + k);
    due("19: no more", y.branch(6), -1);
    y.cut(8);
    due("18: K5 then", y.barred(), 5);
    for (int k = 0; k < 10; k++) due("17: piece", y.piece(k), 9 + k);
    y.cut(9);
    due("18: plane", y.barred(), 0);
    due("17: plane", y.piece(0), -3);
    due("17: plane comes first", y.piece(-1), -3);
    due("19: plane", y.branch(0), -3);
    due("19: plane comes first", y.branch(-1), -3);
  }

  /** K5 with node 5 between 3 and 4, and then a loop, an alike arc, and one arc more. */
  private static PlaneTests k5WithMore() {
    PlaneTests x = Graphs.graph(6);
    for (int i = 0; i < 18; i += 2) x.arc(Graphs.K5[i], Graphs.K5[i + 1]);
    x.arc(3, 5);
    x.arc(5, 4);
    x.arc(2, 2);
    x.arc(1, 0);
    x.arc(5, 0);
    return x;
  }

  private static void promise20Strand() {
    PlaneTests x = k5WithMore();
    for (int k = 0; k < 9; k++) {
      due("20: strand", x.strand(k), 32 * Graphs.K5[2 * k] + Graphs.K5[2 * k + 1]);
    }
    due("20: over node 5", x.strand(9), 32 * 3 + 4);
    due("20: over node 5", x.strand(10), 32 * 3 + 4);
    due("20: a loop", x.strand(11), -3);
    due("20: an alike one", x.strand(12), -3);
    due("20: not in the piece", x.strand(13), -3);
    due("20: no such arc", x.strand(14), -1);
    for (int bad : WRONG) due("20: wrong", x.strand(bad), -1);
    x.cut(12);
    due("20: cut", x.strand(12), -1);
    x.cut(4);
    // now 0, 3, 4 are joined with 1, 2, 5
    due("18: K33 in it", x.barred(), 6);
    due("20: the arc that was more", x.strand(13), 5);
    due("20: K33", x.strand(10), 32 * 4 + 5);
    x.cut(13);
    due("20: plane", x.strand(5), -3);
    due("20: no such arc comes first", x.strand(4), -1);
    // a long strand: 0 and 3 of K33 over 6, 7, .., 19
    PlaneTests y = Graphs.graph(20);
    for (int i = 2; i < Graphs.K33.length; i += 2) y.arc(Graphs.K33[i + 1], Graphs.K33[i]);
    y.arc(6, 0);
    for (int v = 6; v < 19; v++) y.arc(v + 1, v);
    y.arc(3, 19);
    due("20: K33", y.barred(), 6);
    for (int k = 8; k < 23; k++) due("20: long strand", y.strand(k), 3);
    due("20: lesser times 32", y.strand(0), 4);
    due("20: lesser times 32", y.strand(7), 32 * 2 + 5);
  }

  private static void promise21Told() {
    PlaneTests x = Graphs.graph(3, 0, 1, 2, 0, 0, 0, 1, 0);
    dueTold("21: by numbers", x, 0, 0, 3, 4, 5, 7);
    dueTold("21: by numbers", x, 1, 1, 6);
    dueTold("21: by numbers", x, 2, 2);
    due("21: no such node", x.told(3, 0), -1);
    for (int bad : WRONG) {
      due("21: wrong node", x.told(bad, 0), -1);
      due("21: wrong place", x.told(0, bad), -1);
    }
    x.cut(2);
    dueTold("21: less a loop", x, 0, 0, 3, 7);
    x.cut(0);
    dueTold("21: less one", x, 0, 3, 7);
    dueTold("21: less one", x, 1, 6);
    x.arc(0, 0);
    dueTold("21: behind", x, 0, 3, 7, 8, 9);
    dueTold("21: also where it is not plane", Graphs.graph(5, Graphs.K5), 4, 7, 13, 17, 19);
  }

  private static void promise22Swap() {
    PlaneTests x = Graphs.graph(2, 0, 1, 0, 1, 0, 0);
    due("22: swap", x.swap(0, 0, 3), 1);
    dueTold("22: swapped", x, 0, 5, 2, 4, 0);
    due("22: the same place", x.swap(0, 1, 1), 1);
    dueTold("22: as before", x, 0, 5, 2, 4, 0);
    dueTold("22: the other row", x, 1, 1, 3);
    due("22: no such place", x.swap(1, 0, 2), -1);
    due("22: no such place", x.swap(1, 2, 0), -1);
    due("22: no such node", x.swap(2, 0, 0), -1);
    for (int bad : WRONG) {
      due("22: wrong node", x.swap(bad, 0, 0), -1);
      due("22: wrong place", x.swap(0, bad, 0), -1);
      due("22: wrong place", x.swap(0, 0, bad), -1);
    }
    dueTold("22: as before", x, 0, 5, 2, 4, 0);
    x.arc(1, 0);
    dueTold("22: new ones behind", x, 0, 5, 2, 4, 0, 7);
    dueTold("22: new ones behind", x, 1, 1, 3, 6);
    x.cut(1);
    dueTold("22: order stays", x, 0, 5, 4, 0, 7);
    dueTurns("22: THE TURNS are others", x, 0, 0, 7, 4, 5);
  }

  private static void promise23Take() {
    PlaneTests x = Graphs.graph(4, Graphs.K4);
    due("23: handles by numbers", x.genus(), 1);
    due("23: take", x.take(), 1);
    due("23: none now", x.genus(), 0);
    due("23: faces", x.toldFaces(), 4);
    dueTold("23: taken", x, 0, 0, 2, 4);
    dueTold("23: taken", x, 1, 1, 8, 6);
    dueTold("23: taken", x, 2, 3, 7, 10);
    dueTold("23: taken", x, 3, 5, 11, 9);
    x.arc(3, 0);
    dueTold("23: new ones behind", x, 3, 5, 11, 9, 12);
    x.cut(2);
    dueTold("23: less one", x, 3, 11, 9, 12);
    dueTurns("23: THE TURNS stay theirs", x, 3, 12, 11, 9);
    x.swap(1, 0, 2);
    dueTurns("23: a swap is none of THE TURNS", x, 1, 1, 8, 6);
    PlaneTests y = Graphs.graph(5, Graphs.K5);
    y.swap(0, 0, 1);
    due("23: not plane", y.take(), -3);
    dueTold("23: as before", y, 0, 2, 0, 4, 6);
    due("23: no nodes", new PlaneTests().take(), 1);
  }

  private static void promise24And25Genus() {
    PlaneTests x = Graphs.graph(1, 0, 0, 0, 0);
    due("24: side by side", x.genus(), 0);
    due("25: side by side", x.toldFaces(), 3);
    x.swap(0, 1, 2);
    due("24: over one another", x.genus(), 1);
    due("25: over one another", x.toldFaces(), 1);
    x.node();
    due("24: with a lone node", x.genus(), 1);
    due("25: with a lone node", x.toldFaces(), 2);
    due("24: no nodes", new PlaneTests().genus(), 0);
    due("25: no nodes", new PlaneTests().toldFaces(), 0);
    due("24: K5", Graphs.graph(5, Graphs.K5).genus(), 2);
    due("25: K5", Graphs.graph(5, Graphs.K5).toldFaces(), 3);
    due("24: K33", Graphs.graph(6, Graphs.K33).genus(), 1);
    due("25: K33", Graphs.graph(6, Graphs.K33).toldFaces(), 3);
    // forty pairs of loops that cross at one node: forty handles
    PlaneTests y = Graphs.graph(1);
    for (int k = 0; k < 80; k++) y.arc(0, 0);
    for (int k = 0; k < 40; k++) y.swap(0, 4 * k + 1, 4 * k + 2);
    due("24: forty handles", y.genus(), 40);
    due("25: forty handles", y.toldFaces(), 1);
    y.cut(0);
    due("24: one less", y.genus(), 39);
    due("25: one less", y.toldFaces(), 2);
    // handles of two parts are added up
    PlaneTests z = Graphs.graph(2, 0, 0, 0, 0, 1, 1, 1, 1);
    z.swap(0, 1, 2);
    z.swap(1, 1, 2);
    due("24: two parts", z.genus(), 2);
    due("25: two parts", z.toldFaces(), 2);
  }
}
