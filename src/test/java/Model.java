import java.util.ArrayDeque;
import java.util.ArrayList;
import java.util.Collections;
import java.util.Deque;
import java.util.HashMap;
import java.util.HashSet;
import java.util.List;
import java.util.Map;
import java.util.Set;
import java.util.TreeSet;

/**
 * A slow second build of the document, made in other ways than the class: PLANE is found by laying
 * path after path into faces, ROUND is read off these faces, PLACEs are counted by flooding faces.
 */
final class Model {
  private int n = 0;
  /** null for an ARC that was cut. */
  private final List<int[]> arcs = new ArrayList<>();
  private final List<List<Integer>> told = new ArrayList<>();

  private Boolean plane;
  private List<List<Integer>> round;
  private List<List<Integer>> turns;
  private List<List<Integer>> theFaces;
  private int[][] places;
  private TreeSet<Integer> thePiece;

  private void changed() {
    plane = null;
    round = null;
    turns = null;
    theFaces = null;
    places = null;
    thePiece = null;
  }

  private boolean noNode(int v) {
    return v < 0 || v >= n;
  }

  private boolean noArc(int k) {
    return k < 0 || k >= arcs.size() || arcs.get(k) == null;
  }

  private int nodeOf(int end) {
    return arcs.get(end / 2)[end % 2];
  }

  private int live() {
    int count = 0;
    for (int[] arc : arcs) count += arc == null ? 0 : 1;
    return count;
  }

  int node() {
    if (n == 20) return -4;
    changed();
    told.add(new ArrayList<>());
    return n++;
  }

  int arc(int from, int to) {
    if (noNode(from) || noNode(to)) return -1;
    if (arcs.size() == 80) return -4;
    changed();
    int k = arcs.size();
    arcs.add(new int[] {from, to});
    told.get(from).add(2 * k);
    told.get(to).add(2 * k + 1);
    return k;
  }

  int cut(int k) {
    if (noArc(k)) return -1;
    changed();
    told.get(arcs.get(k)[0]).remove(Integer.valueOf(2 * k));
    told.get(arcs.get(k)[1]).remove(Integer.valueOf(2 * k + 1));
    arcs.set(k, null);
    return live();
  }

  int clear() {
    int before = n;
    changed();
    n = 0;
    arcs.clear();
    told.clear();
    return before;
  }

  int test() {
    return isPlane() ? 1 : 0;
  }

  int outer() {
    boolean[][] joined = new boolean[n + 1][n + 1];
    boolean[][] here = joinedBy(null);
    for (int v = 0; v < n; v++) {
      for (int w = 0; w < n; w++) joined[v][w] = here[v][w];
      joined[v][n] = true;
      joined[n][v] = true;
    }
    return isPlane(joined) ? 1 : 0;
  }

  int degree(int v) {
    if (noNode(v)) return -1;
    int count = 0;
    for (int[] arc : arcs) {
      if (arc != null) count += (arc[0] == v ? 1 : 0) + (arc[1] == v ? 1 : 0);
    }
    return count;
  }

  int turn(int v, int k) {
    if (noNode(v)) return -1;
    if (!isPlane()) return -3;
    return at(turns().get(v), k);
  }

  int faces() {
    return isPlane() ? theFaces().size() : -3;
  }

  int face(int k, int i) {
    if (!isPlane()) return -3;
    return k < 0 || k >= theFaces().size() ? -1 : at(theFaces().get(k), i);
  }

  int round(int v, int k) {
    if (noNode(v)) return -1;
    if (!isPlane()) return -3;
    return at(rounds().get(v), k);
  }

  int dual(int k, int what) {
    if (noArc(k)) return -1;
    if (what != 0 && what != 1) return -2;
    if (!hasDual()) return -3;
    for (int f = 0; f < theFaces().size(); f++) {
      if (theFaces().get(f).contains(2 * k + what)) return f;
    }
    throw new IllegalStateException("an END without a FACE");
  }

  int dualBack() {
    if (!hasDual()) return -3;
    Set<Set<Integer>> ofFaces = new HashSet<>();
    List<List<Integer>> back = facesBy(theFaces());
    for (List<Integer> face : back) ofFaces.add(new HashSet<>(face));
    Set<Set<Integer>> ofNodes = new HashSet<>();
    for (List<Integer> row : told) ofNodes.add(new HashSet<>(row));
    return back.size() == n && ofFaces.equals(ofNodes) ? 1 : 0;
  }

  int place(int v, int axis) {
    if (noNode(v)) return -1;
    if (axis != 0 && axis != 1) return -2;
    return isPlane() ? places()[v][axis] : -3;
  }

  int crossing() {
    if (!isPlane()) return -3;
    for (int[] one : arcs) {
      for (int[] other : arcs) {
        if (one != null && other != null && crossed(one, other)) return 1;
      }
    }
    return 0;
  }

  int piece(int k) {
    return isPlane() ? -3 : at(new ArrayList<>(thePiece()), k);
  }

  int barred() {
    if (isPlane()) return 0;
    int fours = 0;
    for (int v : branches()) fours += pieceEnds(v) == 4 ? 1 : 0;
    return branches().size() == 5 && fours == 5 ? 5 : 6;
  }

  int branch(int k) {
    return isPlane() ? -3 : at(branches(), k);
  }

  int strand(int k) {
    if (noArc(k)) return -1;
    if (isPlane() || !thePiece().contains(k)) return -3;
    int one = follow(k, arcs.get(k)[0]);
    int other = follow(k, arcs.get(k)[1]);
    return 32 * Math.min(one, other) + Math.max(one, other);
  }

  int told(int v, int k) {
    return noNode(v) ? -1 : at(told.get(v), k);
  }

  int swap(int v, int i, int j) {
    if (told(v, i) < 0 || told(v, j) < 0) return -1;
    Collections.swap(told.get(v), i, j);
    return 1;
  }

  int take() {
    if (!isPlane()) return -3;
    for (int v = 0; v < n; v++) told.set(v, new ArrayList<>(turns().get(v)));
    return 1;
  }

  int genus() {
    int twice = 2 * parts() - n + live() - toldFaces();
    if (twice % 2 != 0 || twice < 0) throw new IllegalStateException("GENUS " + twice + " / 2");
    return twice / 2;
  }

  int toldFaces() {
    return facesBy(told).size();
  }

  private static int at(List<Integer> row, int i) {
    return i < 0 || i >= row.size() ? -1 : row.get(i);
  }

  // ---- what a GRAPH joins

  /** Without ARC-numbers all that there are. */
  private boolean[][] joinedBy(Set<Integer> chosen) {
    boolean[][] joined = new boolean[n][n];
    for (int k = 0; k < arcs.size(); k++) {
      int[] arc = arcs.get(k);
      if (arc == null || arc[0] == arc[1] || chosen != null && !chosen.contains(k)) continue;
      joined[arc[0]][arc[1]] = true;
      joined[arc[1]][arc[0]] = true;
    }
    return joined;
  }

  private int parts() {
    int[] part = new int[n];
    for (int v = 0; v < n; v++) part[v] = v;
    int count = n;
    for (int[] arc : arcs) {
      if (arc == null || part[arc[0]] == part[arc[1]]) continue;
      int from = part[arc[0]];
      int to = part[arc[1]];
      for (int v = 0; v < n; v++) part[v] = part[v] == from ? to : part[v];
      count--;
    }
    return count;
  }

  private boolean hasDual() {
    return isPlane() && live() > 0 && parts() == 1;
  }

  // ---- PLANE

  private boolean isPlane() {
    if (plane == null) plane = isPlane(joinedBy(null));
    return plane;
  }

  static boolean isPlane(boolean[][] joined) {
    for (Set<Integer> block : blocks(joined)) {
      if (facesOfBlock(joined, block) == null) return false;
    }
    return true;
  }

  /** The sets of arcs (v * 64 + w, v < w) that lie on a round with one another. */
  private static List<Set<Integer>> blocks(boolean[][] joined) {
    List<Set<Integer>> found = new ArrayList<>();
    int[] depth = new int[joined.length];
    int[] low = new int[joined.length];
    Deque<Integer> stack = new ArrayDeque<>();
    for (int v = 0; v < joined.length; v++) {
      if (depth[v] == 0) findBlocks(joined, v, -1, 1, depth, low, stack, found);
    }
    return found;
  }

  private static void findBlocks(boolean[][] joined, int v, int parent, int d, int[] depth,
      int[] low, Deque<Integer> stack, List<Set<Integer>> found) {
    depth[v] = d;
    low[v] = d;
    for (int w = 0; w < joined.length; w++) {
      if (!joined[v][w] || w == parent) continue;
      if (depth[w] == 0) {
        int mark = stack.size();
        stack.push(key(v, w));
        findBlocks(joined, w, v, d + 1, depth, low, stack, found);
        low[v] = Math.min(low[v], low[w]);
        if (low[w] >= d) {
          Set<Integer> block = new HashSet<>();
          while (stack.size() > mark) block.add(stack.pop());
          found.add(block);
        }
      } else if (depth[w] < d) {
        stack.push(key(v, w));
        low[v] = Math.min(low[v], depth[w]);
      }
    }
  }

  private static int key(int v, int w) {
    return Math.min(v, w) * 64 + Math.max(v, w);
  }

  /** The faces as rounds of nodes, found by laying path after path; null if a path fits nowhere. */
  static List<List<Integer>> facesOfBlock(boolean[][] joined, Set<Integer> block) {
    List<List<Integer>> faces = new ArrayList<>();
    if (block.size() < 3) return faces;
    Set<Integer> rest = new HashSet<>(block);
    int firstArc = Collections.min(block);
    rest.remove(firstArc);
    Set<Integer> nobody = new HashSet<>();
    List<Integer> cycle = path(joined.length, rest, firstArc / 64, firstArc % 64, nobody);
    Set<Integer> laid = new HashSet<>();
    for (int i = 0; i + 1 < cycle.size(); i++) rest.remove(key(cycle.get(i), cycle.get(i + 1)));
    laid.addAll(cycle);
    faces.add(new ArrayList<>(cycle));
    faces.add(new ArrayList<>(cycle));
    while (!rest.isEmpty()) {
      Set<Integer> best = null;
      List<Integer> bestFaces = null;
      for (Set<Integer> fragment : fragments(rest, laid)) {
        Set<Integer> contacts = contacts(fragment, laid);
        List<Integer> fitting = new ArrayList<>();
        for (int f = 0; f < faces.size(); f++) {
          if (faces.get(f).containsAll(contacts)) fitting.add(f);
        }
        if (fitting.isEmpty()) return null;
        if (best == null || fitting.size() < bestFaces.size()) {
          best = fragment;
          bestFaces = fitting;
        }
      }
      List<Integer> ends = new ArrayList<>(contacts(best, laid));
      List<Integer> way = path(joined.length, best, ends.get(0), ends.get(1), laid);
      for (int i = 0; i + 1 < way.size(); i++) rest.remove(key(way.get(i), way.get(i + 1)));
      laid.addAll(way);
      split(faces, bestFaces.get(0), way);
    }
    return faces;
  }

  private static void split(List<List<Integer>> faces, int f, List<Integer> way) {
    List<Integer> old = faces.get(f);
    List<Integer> turned = new ArrayList<>(old);
    Collections.rotate(turned, -old.indexOf(way.get(0)));
    int end = turned.indexOf(way.get(way.size() - 1));
    List<Integer> inner = way.subList(1, way.size() - 1);
    List<Integer> backward = new ArrayList<>(inner);
    Collections.reverse(backward);
    List<Integer> one = new ArrayList<>(turned.subList(0, end + 1));
    one.addAll(backward);
    List<Integer> other = new ArrayList<>();
    other.add(turned.get(0));
    other.addAll(inner);
    other.addAll(turned.subList(end, turned.size()));
    faces.set(f, one);
    faces.add(other);
  }

  private static Set<Integer> contacts(Set<Integer> fragment, Set<Integer> laid) {
    Set<Integer> found = new TreeSet<>();
    for (int arc : fragment) {
      if (laid.contains(arc / 64)) found.add(arc / 64);
      if (laid.contains(arc % 64)) found.add(arc % 64);
    }
    return found;
  }

  /** Arcs not laid yet, together where they hang together by nodes not laid yet. */
  private static List<Set<Integer>> fragments(Set<Integer> rest, Set<Integer> laid) {
    List<Set<Integer>> found = new ArrayList<>();
    Set<Integer> open = new TreeSet<>(rest);
    while (!open.isEmpty()) {
      Set<Integer> fragment = new HashSet<>();
      Deque<Integer> todo = new ArrayDeque<>();
      todo.add(open.iterator().next());
      open.remove(todo.peek());
      while (!todo.isEmpty()) {
        int arc = todo.poll();
        fragment.add(arc);
        for (int v : new int[] {arc / 64, arc % 64}) {
          if (laid.contains(v)) continue;
          for (int other : new ArrayList<>(open)) {
            if (other / 64 == v || other % 64 == v) {
              open.remove(other);
              todo.add(other);
            }
          }
        }
      }
      found.add(fragment);
    }
    return found;
  }

  /** A way from one node to another over some arcs, and over no barred node between. */
  private static List<Integer> path(int count, Set<Integer> arcs, int from, int to,
      Set<Integer> barred) {
    int[] before = new int[count];
    java.util.Arrays.fill(before, -1);
    before[from] = from;
    Deque<Integer> todo = new ArrayDeque<>();
    todo.add(from);
    while (!todo.isEmpty()) {
      int v = todo.poll();
      if (v != from && barred.contains(v)) continue;
      for (int arc : arcs) {
        if (arc / 64 != v && arc % 64 != v) continue;
        int w = arc / 64 == v ? arc % 64 : arc / 64;
        if (before[w] < 0) {
          before[w] = v;
          todo.add(w);
        }
      }
    }
    List<Integer> way = new ArrayList<>();
    for (int v = to; v != from; v = before[v]) way.add(0, v);
    way.add(0, from);
    return way;
  }

  // ---- FILLED, ROUND, THE TURNS, THE FACES

  private boolean[][] filled() {
    boolean[][] joined = joinedBy(null);
    for (int v = 0; v < n; v++) {
      for (int w = v + 1; w < n; w++) {
        if (joined[v][w]) continue;
        joined[v][w] = true;
        joined[w][v] = true;
        if (!isPlane(joined)) {
          joined[v][w] = false;
          joined[w][v] = false;
        }
      }
    }
    return joined;
  }

  private static List<List<Integer>> filledFaces(boolean[][] joined) {
    List<Set<Integer>> blocks = blocks(joined);
    if (blocks.size() != 1) throw new IllegalStateException("FILLED is not one block");
    List<List<Integer>> faces = facesOfBlock(joined, blocks.get(0));
    for (List<Integer> face : faces) {
      if (face.size() != 3) throw new IllegalStateException("a FACE of FILLED is " + face);
    }
    return faces;
  }

  private List<List<Integer>> rounds() {
    if (round != null) return round;
    boolean[][] joined = filled();
    round = new ArrayList<>();
    for (int v = 0; v < n; v++) round.add(new ArrayList<>());
    if (n < 4) {
      for (int v = 0; v < n; v++) {
        for (int w = 0; w < n; w++) {
          if (joined[v][w]) round.get(v).add(w);
        }
      }
      return round;
    }
    List<Map<Integer, Integer>> next = directed(filledFaces(joined));
    boolean mirrored = false;
    for (int v = 0; v < n; v++) {
      List<Integer> row = new ArrayList<>();
      int least = Collections.min(next.get(v).keySet());
      int w = least;
      do {
        row.add(w);
        w = next.get(v).get(w);
      } while (w != least);
      if (row.size() != next.get(v).size()) throw new IllegalStateException("no round at " + v);
      if (v == 0) mirrored = row.get(1) > row.get(row.size() - 1);
      if (mirrored) Collections.reverse(row.subList(1, row.size()));
      round.set(v, row);
    }
    return round;
  }

  /** At each node what follows a neighbour, all faces being gone round in one sense. */
  private List<Map<Integer, Integer>> directed(List<List<Integer>> faces) {
    List<Map<Integer, Integer>> next = new ArrayList<>();
    for (int v = 0; v < n; v++) next.add(new HashMap<>());
    boolean[] done = new boolean[faces.size()];
    Deque<int[]> todo = new ArrayDeque<>();
    List<Integer> start = faces.get(0);
    todo.add(new int[] {start.get(0), start.get(1)});
    while (!todo.isEmpty()) {
      int[] arc = todo.poll();
      for (int f = 0; f < faces.size(); f++) {
        List<Integer> face = faces.get(f);
        if (done[f] || !face.contains(arc[0]) || !face.contains(arc[1])) continue;
        // each arc is gone once in each sense
        if (next.get(arc[1]).containsKey(arc[0])) break;
        done[f] = true;
        int third = face.get(0) + face.get(1) + face.get(2) - arc[0] - arc[1];
        next.get(arc[1]).put(arc[0], third);
        next.get(third).put(arc[1], arc[0]);
        next.get(arc[0]).put(third, arc[1]);
        todo.add(new int[] {arc[1], arc[0]});
        todo.add(new int[] {third, arc[1]});
        todo.add(new int[] {arc[0], third});
        break;
      }
    }
    return next;
  }

  private List<List<Integer>> turns() {
    if (turns != null) return turns;
    turns = new ArrayList<>();
    for (int v = 0; v < n; v++) {
      List<Integer> row = new ArrayList<>();
      for (int w : rounds().get(v)) {
        List<Integer> alike = new ArrayList<>();
        for (int k = 0; k < arcs.size(); k++) {
          int[] arc = arcs.get(k);
          if (arc == null) continue;
          if (arc[0] == v && arc[1] == w) alike.add(2 * k);
          if (arc[0] == w && arc[1] == v) alike.add(2 * k + 1);
        }
        if (w < v) Collections.reverse(alike);
        row.addAll(alike);
      }
      for (int k = 0; k < arcs.size(); k++) {
        int[] arc = arcs.get(k);
        if (arc != null && arc[0] == v && arc[1] == v) {
          row.add(2 * k);
          row.add(2 * k + 1);
        }
      }
      turns.add(row);
    }
    return turns;
  }

  private List<List<Integer>> theFaces() {
    if (theFaces == null) {
      theFaces = facesBy(turns());
      int twice = 2 * parts() - n + live() - theFaces.size();
      if (twice != 0) throw new IllegalStateException("THE TURNS have GENUS " + twice + " / 2");
    }
    return theFaces;
  }

  private static List<List<Integer>> facesBy(List<List<Integer>> rows) {
    Map<Integer, Integer> behind = new HashMap<>();
    for (List<Integer> row : rows) {
      for (int i = 0; i < row.size(); i++) behind.put(row.get(i), row.get((i + 1) % row.size()));
    }
    List<List<Integer>> found = new ArrayList<>();
    Set<Integer> open = new TreeSet<>(behind.keySet());
    while (!open.isEmpty()) {
      List<Integer> face = new ArrayList<>();
      int e = open.iterator().next();
      while (open.remove(e)) {
        face.add(e);
        e = behind.get(e % 2 == 0 ? e + 1 : e - 1);
      }
      found.add(face);
    }
    for (List<Integer> row : rows) {
      if (row.isEmpty()) found.add(new ArrayList<>());
    }
    return found;
  }

  // ---- THE DRAWING

  private int[][] places() {
    if (places != null) return places;
    places = new int[n][2];
    if (n == 2) places[1][0] = 1;
    if (n < 3) return places;
    boolean[][] joined = filled();
    List<TreeSet<Integer>> faces = new ArrayList<>();
    for (List<Integer> face : filledFaces(joined)) faces.add(new TreeSet<>(face));
    TreeSet<Integer> out = faces.get(0);
    for (TreeSet<Integer> face : faces) {
      if (new ArrayList<>(face).toString().equals(out.toString())) continue;
      if (compare(face, out) < 0) out = face;
    }
    int[] abc = out.stream().mapToInt(v -> v).toArray();
    faces.remove(out);
    int[][] ways = ways(joined, abc);
    for (int v = 0; v < n; v++) {
      if (out.contains(v)) continue;
      places[v][0] = between(v, ways, faces, abc, 1);
      places[v][1] = between(v, ways, faces, abc, 0);
    }
    places[abc[0]][0] = 2 * n - 5;
    places[abc[1]][1] = 2 * n - 5;
    return places;
  }

  private static int compare(TreeSet<Integer> one, TreeSet<Integer> other) {
    List<Integer> p = new ArrayList<>(one);
    List<Integer> q = new ArrayList<>(other);
    for (int i = 0; i < 3; i++) {
      if (!p.get(i).equals(q.get(i))) return p.get(i) - q.get(i);
    }
    return 0;
  }

  /** LEFT, RIGHT and UP of each node, -1 for none. */
  private int[][] ways(boolean[][] joined, int[] abc) {
    int[][] ways = new int[3][n];
    for (int[] way : ways) java.util.Arrays.fill(way, -1);
    List<Integer> rim = new ArrayList<>(List.of(abc[0], abc[2], abc[1]));
    Set<Integer> left = new TreeSet<>();
    for (int v = 0; v < n; v++) left.add(v);
    int off = abc[2];
    while (left.size() > 2) {
      if (off < 0) {
        for (int v : rim) {
          int near = 0;
          for (int w : rim) near += joined[v][w] ? 1 : 0;
          if (v != abc[0] && v != abc[1] && near == 2) off = Math.max(off, v);
        }
      }
      int i = rim.indexOf(off);
      int toA = rim.get(i - 1);
      int toB = rim.get(i + 1);
      left.remove(off);
      ways[0][off] = toA;
      ways[1][off] = toB;
      List<Integer> fresh = inner(off, toA, toB, rim, left);
      for (int w : fresh) ways[2][w] = off;
      rim.remove(i);
      rim.addAll(i, fresh);
      off = -1;
    }
    return ways;
  }

  /** The neighbours of a node that come to the rim, from the side of a to that of b. */
  private List<Integer> inner(int v, int toA, int toB, List<Integer> rim, Set<Integer> left) {
    List<Integer> row = new ArrayList<>(rounds().get(v));
    int wanted = 0;
    for (int w : row) wanted += left.contains(w) && !rim.contains(w) ? 1 : 0;
    for (int sense = 0; sense < 2; sense++) {
      Collections.rotate(row, -row.indexOf(toA));
      List<Integer> between = new ArrayList<>(row.subList(1, row.indexOf(toB)));
      if (between.size() == wanted && left.containsAll(between)) return between;
      Collections.reverse(row);
    }
    throw new IllegalStateException("no way along the rim at " + v);
  }

  /** Floods the faces from the arc between c and the other end, over no arc of the two ways. */
  private int between(int v, int[][] ways, List<TreeSet<Integer>> faces, int[] abc, int which) {
    Set<Integer> walls = new HashSet<>();
    for (int way : new int[] {which, 2}) {
      for (int w = v; w != abc[way]; w = ways[way][w]) walls.add(key(w, ways[way][w]));
    }
    Set<Integer> seen = new HashSet<>();
    Deque<Integer> todo = new ArrayDeque<>();
    for (int f = 0; f < faces.size(); f++) {
      if (faces.get(f).contains(abc[which]) && faces.get(f).contains(abc[2])) todo.add(f);
    }
    if (todo.size() != 1) throw new IllegalStateException("an outer arc has one inner face");
    if (walls.contains(key(abc[which], abc[2]))) throw new IllegalStateException("a way outside");
    seen.add(todo.peek());
    while (!todo.isEmpty()) {
      TreeSet<Integer> face = faces.get(todo.poll());
      for (int f = 0; f < faces.size(); f++) {
        List<Integer> shared = new ArrayList<>(face);
        shared.retainAll(faces.get(f));
        if (shared.size() != 2 || walls.contains(key(shared.get(0), shared.get(1)))) continue;
        if (seen.add(f)) todo.add(f);
      }
    }
    return seen.size();
  }

  private boolean crossed(int[] one, int[] other) {
    if (one[0] == one[1] || other[0] == other[1]) return false;
    if (key(one[0], one[1]) == key(other[0], other[1])) return false;
    int[][] at = places();
    for (int i = 0; i < 2; i++) {
      for (int j = 0; j < 2; j++) {
        if (one[i] != other[j]) continue;
        int[] p = at[one[1 - i]];
        int[] q = at[other[1 - j]];
        return on(at[one[i]], p, q) || on(at[one[i]], q, p);
      }
    }
    int[] p = at[one[0]];
    int[] q = at[one[1]];
    int[] r = at[other[0]];
    int[] s = at[other[1]];
    if (on(p, q, r) || on(p, q, s) || on(r, s, p) || on(r, s, q)) return true;
    return side(p, q, r) * side(p, q, s) < 0 && side(r, s, p) * side(r, s, q) < 0;
  }

  private static int side(int[] p, int[] q, int[] r) {
    return Integer.signum((q[0] - p[0]) * (r[1] - p[1]) - (q[1] - p[1]) * (r[0] - p[0]));
  }

  /** Whether r lies on the line from p to q. */
  private static boolean on(int[] p, int[] q, int[] r) {
    return side(p, q, r) == 0
        && Math.min(p[0], q[0]) <= r[0] && r[0] <= Math.max(p[0], q[0])
        && Math.min(p[1], q[1]) <= r[1] && r[1] <= Math.max(p[1], q[1]);
  }

  // ---- THE PIECE

  private TreeSet<Integer> thePiece() {
    if (thePiece != null) return thePiece;
    thePiece = new TreeSet<>();
    for (int k = 0; k < arcs.size(); k++) {
      if (arcs.get(k) != null) thePiece.add(k);
    }
    for (int k = arcs.size() - 1; k >= 0; k--) {
      if (thePiece.remove(k) && isPlane(joinedBy(thePiece))) thePiece.add(k);
    }
    return thePiece;
  }

  private int pieceEnds(int v) {
    int count = 0;
    for (int k : thePiece()) {
      count += (arcs.get(k)[0] == v ? 1 : 0) + (arcs.get(k)[1] == v ? 1 : 0);
    }
    return count;
  }

  private List<Integer> branches() {
    List<Integer> found = new ArrayList<>();
    for (int v = 0; v < n; v++) {
      if (pieceEnds(v) >= 3) found.add(v);
    }
    return found;
  }

  private int follow(int arc, int node) {
    if (pieceEnds(node) != 2) return node;
    for (int k : thePiece()) {
      int[] ends = arcs.get(k);
      if (k != arc && (ends[0] == node || ends[1] == node)) {
        return follow(k, ends[0] + ends[1] - node);
      }
    }
    throw new IllegalStateException("a STRAND ends at " + node);
  }
}
