import java.util.Arrays;

/**
 * Graphs in the plane: whether a graph can lie there, its faces, its dual and a drawing of it, a
 * barred piece where it cannot, and the handles that told turnings need.
 */
public final class PlaneTests {
    private static final int MOST_NODES = 20;
    private static final int MOST_ARCS = 80;
    private static final int MOST_ENDS = 2 * MOST_ARCS;
    /** The question for OUTERPLANE needs a node more than a GRAPH may have. */
    private static final int MOST_POINTS = MOST_NODES + 1;
    /** A face has an END, or stands for a node without ARCS. */
    private static final int MOST_ROWS = MOST_ENDS + MOST_NODES;

    private static final int NO_SUCH = -1;
    private static final int OUTSIDE = -2;
    private static final int NOT_SO = -3;
    private static final int NO_ROOM = -4;

    private final Graph graph;
    private final Rows toldRows;
    /** The NEIGHBOURS in another graph that is asked about. */
    private final int[] otherJoined;
    private final PlaneCheck check;
    private final Filled filled;
    private final Round ring;
    private final Rows turns;
    private final Faces turnFaces;
    private final Faces otherFaces;
    private final Drawing drawing;
    private final Piece barredPiece;

    private boolean planeKnown;
    private boolean plane;
    private boolean turnsKnown;
    private boolean drawingKnown;
    private boolean pieceKnown;

    public PlaneTests() {
        graph = new Graph();
        toldRows = new Rows();
        otherJoined = new int[MOST_POINTS];
        check = new PlaneCheck();
        filled = new Filled();
        ring = new Round(filled);
        turns = new Rows();
        turnFaces = new Faces();
        otherFaces = new Faces();
        drawing = new Drawing(filled, ring);
        barredPiece = new Piece(graph);
    }

    public int node() {
        if (graph.nodes >= MOST_NODES) {
            return NO_ROOM;
        }
        forget();
        toldRows.open();
        return graph.addNode();
    }

    public int arc(int from, int to) {
        if (!graph.hasNode(from) || !graph.hasNode(to)) {
            return NO_SUCH;
        }
        if (graph.made >= MOST_ARCS) {
            return NO_ROOM;
        }
        forget();
        int made = graph.addArc(from, to);
        toldRows.append(from, 2 * made);
        toldRows.append(to, 2 * made + 1);
        return made;
    }

    public int cut(int arc) {
        if (!graph.hasArc(arc)) {
            return NO_SUCH;
        }
        forget();
        toldRows.remove(graph.at[2 * arc], 2 * arc);
        toldRows.remove(graph.at[2 * arc + 1], 2 * arc + 1);
        return graph.removeArc(arc);
    }

    public int clear() {
        int before = graph.nodes;
        forget();
        graph.empty();
        toldRows.empty();
        return before;
    }

    public int test() {
        return isPlane() ? 1 : 0;
    }

    public int outer() {
        int hub = graph.nodes;
        otherJoined[hub] = (1 << hub) - 1;
        for (int v = 0; v < hub; v++) {
            otherJoined[v] = graph.joined[v] | 1 << hub;
        }
        return check.accepts(otherJoined, hub + 1) ? 1 : 0;
    }

    public int degree(int node) {
        return graph.hasNode(node) ? toldRows.size(node) : NO_SUCH;
    }

    public int turn(int node, int k) {
        if (!graph.hasNode(node)) {
            return NO_SUCH;
        }
        if (!isPlane()) {
            return NOT_SO;
        }
        makeFilled();
        makeTurns();
        return turns.has(node, k) ? turns.get(node, k) : NO_SUCH;
    }

    public int faces() {
        if (!isPlane()) {
            return NOT_SO;
        }
        makeFilled();
        makeTurns();
        return turnFaces.rows.count;
    }

    public int face(int k, int i) {
        if (!isPlane()) {
            return NOT_SO;
        }
        makeFilled();
        makeTurns();
        return turnFaces.rows.has(k, i) ? turnFaces.rows.get(k, i) : NO_SUCH;
    }

    public int round(int node, int k) {
        if (!graph.hasNode(node)) {
            return NO_SUCH;
        }
        if (!isPlane()) {
            return NOT_SO;
        }
        makeFilled();
        if (k < 0 || k >= Integer.bitCount(filled.joined[node])) {
            return NO_SUCH;
        }
        return ring.neighbour(node, k);
    }

    public int dual(int arc, int what) {
        if (!graph.hasArc(arc)) {
            return NO_SUCH;
        }
        if (what < 0 || what > 1) {
            return OUTSIDE;
        }
        if (!hasDual()) {
            return NOT_SO;
        }
        makeFilled();
        makeTurns();
        return turnFaces.faceOf[2 * arc + what];
    }

    public int dualBack() {
        if (!hasDual()) {
            return NOT_SO;
        }
        makeFilled();
        makeTurns();
        otherFaces.trace(turnFaces.rows);
        Rows back = otherFaces.rows;
        if (back.count != graph.nodes) {
            return 0;
        }
        for (int k = 0; k < back.count; k++) {
            if (!hasEndsOfOneNode(back, k)) {
                return 0;
            }
        }
        return 1;
    }

    public int place(int node, int axis) {
        if (!graph.hasNode(node)) {
            return NO_SUCH;
        }
        if (axis < 0 || axis > 1) {
            return OUTSIDE;
        }
        if (!isPlane()) {
            return NOT_SO;
        }
        makeFilled();
        makeDrawing();
        return axis == 0 ? drawing.x[node] : drawing.y[node];
    }

    public int crossing() {
        if (!isPlane()) {
            return NOT_SO;
        }
        makeFilled();
        makeDrawing();
        for (int k = 0; k < graph.made; k++) {
            for (int m = 0; m < k; m++) {
                if (areApart(k, m) && haveMorePoints(k, m)) {
                    return 1;
                }
            }
        }
        return 0;
    }

    public int piece(int k) {
        if (isPlane()) {
            return NOT_SO;
        }
        makePiece();
        return barredPiece.arcAt(k);
    }

    public int barred() {
        if (isPlane()) {
            return 0;
        }
        makePiece();
        return barredPiece.kind();
    }

    public int branch(int k) {
        if (isPlane()) {
            return NOT_SO;
        }
        makePiece();
        return barredPiece.branchAt(k);
    }

    public int strand(int arc) {
        if (!graph.hasArc(arc)) {
            return NO_SUCH;
        }
        if (isPlane()) {
            return NOT_SO;
        }
        makePiece();
        if (!barredPiece.kept[arc]) {
            return NOT_SO;
        }
        int one = barredPiece.branchFrom(2 * arc);
        int other = barredPiece.branchFrom(2 * arc + 1);
        return 32 * Math.min(one, other) + Math.max(one, other);
    }

    public int told(int node, int k) {
        if (!graph.hasNode(node) || !toldRows.has(node, k)) {
            return NO_SUCH;
        }
        return toldRows.get(node, k);
    }

    public int swap(int node, int i, int j) {
        if (!graph.hasNode(node) || !toldRows.has(node, i) || !toldRows.has(node, j)) {
            return NO_SUCH;
        }
        toldRows.exchange(node, i, j);
        return 1;
    }

    public int take() {
        if (!isPlane()) {
            return NOT_SO;
        }
        makeFilled();
        makeTurns();
        toldRows.copy(turns);
        return 1;
    }

    public int genus() {
        otherFaces.trace(toldRows);
        int faceCount = otherFaces.rows.count;
        return (2 * countParts() - graph.nodes + graph.left - faceCount) / 2;
    }

    public int toldFaces() {
        otherFaces.trace(toldRows);
        return otherFaces.rows.count;
    }

    private void forget() {
        planeKnown = false;
        turnsKnown = false;
        drawingKnown = false;
        pieceKnown = false;
    }

    private boolean isPlane() {
        if (!planeKnown) {
            int count = graph.nodes;
            plane = filled.isOf(graph.joined, count) || check.accepts(graph.joined, count);
            planeKnown = true;
        }
        return plane;
    }

    private void makeFilled() {
        if (!filled.isOf(graph.joined, graph.nodes)) {
            filled.fill(graph.joined, graph.nodes, check);
            ring.findFaces();
            ring.lay();
        }
    }

    private void makeTurns() {
        if (turnsKnown) {
            return;
        }
        turns.empty();
        for (int v = 0; v < graph.nodes; v++) {
            turns.open();
            layNeighbours(v);
            layLoops(v);
        }
        turnFaces.trace(turns);
        turnsKnown = true;
    }

    private void layNeighbours(int v) {
        int count = Integer.bitCount(filled.joined[v]);
        int w = lowest(filled.joined[v]);
        for (int i = 0; i < count; i++) {
            if (hasBit(graph.joined[v], w)) {
                layAlike(v, w);
            }
            w = ring.behind(v, w);
        }
    }

    /** The lesser node has ALIKE ARCS by rising numbers, so that they lie side by side. */
    private void layAlike(int v, int w) {
        for (int i = 0; i < graph.made; i++) {
            int arc = v < w ? i : graph.made - 1 - i;
            int end = graph.endAt(v, w, arc);
            if (end >= 0) {
                turns.append(v, end);
            }
        }
    }

    private void layLoops(int v) {
        for (int arc = 0; arc < graph.made; arc++) {
            if (graph.endAt(v, v, arc) >= 0) {
                turns.append(v, 2 * arc);
                turns.append(v, 2 * arc + 1);
            }
        }
    }

    private void makeDrawing() {
        if (!drawingKnown) {
            drawing.lay();
            drawingKnown = true;
        }
    }

    private void makePiece() {
        if (!pieceKnown) {
            barredPiece.find(otherJoined, check);
            pieceKnown = true;
        }
    }

    private boolean hasDual() {
        return isPlane() && graph.left > 0 && countParts() == 1;
    }

    private int countParts() {
        int all = (1 << graph.nodes) - 1;
        int seen = 0;
        int parts = 0;
        for (int v = 0; v < graph.nodes; v++) {
            if (!hasBit(seen, v)) {
                seen |= reached(graph.joined, v, all);
                parts++;
            }
        }
        return parts;
    }

    private boolean hasEndsOfOneNode(Rows rows, int row) {
        int size = rows.size(row);
        if (size == 0) {
            return false;
        }
        int node = graph.at[rows.get(row, 0)];
        for (int i = 1; i < size; i++) {
            if (graph.at[rows.get(row, i)] != node) {
                return false;
            }
        }
        return size == toldRows.size(node);
    }

    /** Whether both ARCS are there, neither is a LOOP, and they are not ALIKE. */
    private boolean areApart(int k, int m) {
        if (!graph.hasArc(k) || !graph.hasArc(m) || graph.isLoop(k) || graph.isLoop(m)) {
            return false;
        }
        return graph.endAt(graph.at[2 * k], graph.at[2 * k + 1], m) < 0;
    }

    /** Of two ARCS that are apart: they have one node in common at most. */
    private boolean haveMorePoints(int k, int m) {
        int p = graph.at[2 * k];
        int q = graph.at[2 * k + 1];
        int r = graph.at[2 * m];
        int s = graph.at[2 * m + 1];
        if (p == r) {
            return drawing.overlap(p, q, s);
        }
        if (p == s) {
            return drawing.overlap(p, q, r);
        }
        if (q == r) {
            return drawing.overlap(q, p, s);
        }
        if (q == s) {
            return drawing.overlap(q, p, r);
        }
        return drawing.meet(p, q, r, s);
    }

    private static boolean hasBit(int mask, int bit) {
        return (mask >>> bit & 1) != 0;
    }

    /** The least number in a mask; 32 if the mask is empty. */
    private static int lowest(int mask) {
        return Integer.bitCount(~mask & (mask - 1));
    }

    /** The nodes that can be reached from one over nodes of a mask alone. */
    private static int reached(int[] joined, int start, int within) {
        int seen = 1 << start;
        int open = seen;
        for (int step = 0; step < MOST_POINTS && open != 0; step++) {
            int v = lowest(open);
            int fresh = joined[v] & within & ~seen;
            seen |= fresh;
            open = open & ~(1 << v) | fresh;
        }
        return seen;
    }

    /** The nodes and the ARCS, as they were told. */
    private static final class Graph {
        /** The node of each END. */
        private final int[] at = new int[MOST_ENDS];
        private final boolean[] there = new boolean[MOST_ARCS];
        /** The NEIGHBOURS of each node, as a mask. */
        private final int[] joined = new int[MOST_NODES];
        private int nodes;
        /** How many ARCS were made, and how many of them are left. */
        private int made;
        private int left;

        void empty() {
            nodes = 0;
            made = 0;
            left = 0;
            findNeighbours(there, joined);
        }

        boolean hasNode(int v) {
            return v >= 0 && v < nodes;
        }

        boolean hasArc(int k) {
            return k >= 0 && k < made && there[k];
        }

        boolean isLoop(int k) {
            return at[2 * k] == at[2 * k + 1];
        }

        int addNode() {
            nodes++;
            return nodes - 1;
        }

        int addArc(int from, int to) {
            at[2 * made] = from;
            at[2 * made + 1] = to;
            there[made] = true;
            made++;
            left++;
            findNeighbours(there, joined);
            return made - 1;
        }

        int removeArc(int k) {
            there[k] = false;
            left--;
            findNeighbours(there, joined);
            return left;
        }

        /** The END at v of an ARC, if the ARC is there and joins v and w; otherwise -1. */
        int endAt(int v, int w, int k) {
            if (!there[k]) {
                return -1;
            }
            if (at[2 * k] == v && at[2 * k + 1] == w) {
                return 2 * k;
            }
            return at[2 * k] == w && at[2 * k + 1] == v ? 2 * k + 1 : -1;
        }

        /** The NEIGHBOURS by some of the ARCS alone. */
        void findNeighbours(boolean[] chosen, int[] masks) {
            Arrays.fill(masks, 0);
            for (int k = 0; k < made; k++) {
                if (chosen[k] && !isLoop(k)) {
                    masks[at[2 * k]] |= 1 << at[2 * k + 1];
                    masks[at[2 * k + 1]] |= 1 << at[2 * k];
                }
            }
        }
    }

    /** Rows of ENDS, one behind the other in one array. */
    private static final class Rows {
        private final int[] ends = new int[MOST_ENDS];
        private final int[] start = new int[MOST_ROWS + 1];
        private int count;

        void empty() {
            count = 0;
        }

        /** One row more, without ENDS. */
        void open() {
            if (count < MOST_ROWS) {
                start[count + 1] = start[count];
                count++;
            }
        }

        int size(int row) {
            return start[row + 1] - start[row];
        }

        boolean has(int row, int i) {
            return row >= 0 && row < count && i >= 0 && i < size(row);
        }

        int get(int row, int i) {
            return ends[start[row] + i];
        }

        void append(int row, int end) {
            if (start[count] >= MOST_ENDS) {
                return;
            }
            for (int i = start[count]; i > start[row + 1]; i--) {
                ends[i] = ends[i - 1];
            }
            ends[start[row + 1]] = end;
            for (int r = row + 1; r <= count; r++) {
                start[r]++;
            }
        }

        void remove(int row, int end) {
            int kept = start[row];
            for (int i = start[row]; i < start[count]; i++) {
                if (ends[i] != end) {
                    ends[kept] = ends[i];
                    kept++;
                }
            }
            int gone = start[count] - kept;
            for (int r = row + 1; r <= count; r++) {
                start[r] -= gone;
            }
        }

        void exchange(int row, int i, int j) {
            int kept = ends[start[row] + i];
            ends[start[row] + i] = ends[start[row] + j];
            ends[start[row] + j] = kept;
        }

        void copy(Rows other) {
            count = other.count;
            System.arraycopy(other.ends, 0, ends, 0, MOST_ENDS);
            System.arraycopy(other.start, 0, start, 0, MOST_ROWS + 1);
        }
    }

    /** The FACES that some rows of ENDS make by THE WAY. */
    private static final class Faces {
        private final Rows rows = new Rows();
        private final int[] faceOf = new int[MOST_ENDS];
        /** For each END the one behind it in its row; -1 if no row has it. */
        private final int[] behind = new int[MOST_ENDS];

        void trace(Rows turnings) {
            findBehind(turnings);
            Arrays.fill(faceOf, -1);
            rows.empty();
            for (int e = 0; e < MOST_ENDS; e++) {
                if (behind[e] >= 0 && faceOf[e] < 0) {
                    walk(e);
                }
            }
            for (int row = 0; row < turnings.count; row++) {
                if (turnings.size(row) == 0) {
                    rows.open();
                }
            }
        }

        private void findBehind(Rows turnings) {
            Arrays.fill(behind, -1);
            for (int row = 0; row < turnings.count; row++) {
                int size = turnings.size(row);
                for (int i = 0; i < size; i++) {
                    behind[turnings.get(row, i)] = turnings.get(row, i + 1 < size ? i + 1 : 0);
                }
            }
        }

        private void walk(int first) {
            int number = rows.count;
            rows.open();
            int e = first;
            for (int step = 0; step < MOST_ENDS && e >= 0 && faceOf[e] < 0; step++) {
                faceOf[e] = number;
                rows.append(number, e);
                e = behind[e ^ 1];
            }
        }
    }

    /**
     * Whether a graph without LOOPS and ALIKE ARCS is PLANE. A search from node to node gives each
     * node a height above the one it began at, and tells tree arcs, which lead one up, from back
     * arcs, which lead down to a node that the search came by. The graph is PLANE just if each back
     * arc can be given one of two sides, so that of any two arcs that lead on from a node, the back
     * arcs that are met over the one and end higher than the lowest that is met over the other all
     * have one side, and those that are met over the other and end higher than the lowest over the
     * one all have the other side (the left-right criterion of de Fraysseix and Rosenstiehl).
     */
    private static final class PlaneCheck {
        /** A graph with more arcs is not PLANE, so a mask of 64 bits holds all back arcs. */
        private static final int MOST_LINKS = 3 * MOST_POINTS - 6;
        private static final int MOST_STEPS = MOST_POINTS * MOST_POINTS + MOST_POINTS;

        private final int[] height = new int[MOST_POINTS];
        private final int[] parent = new int[MOST_POINTS];
        private final int[] open = new int[MOST_POINTS];
        /** Back arcs that begin at a node, and those that begin there or further on. */
        private final long[] own = new long[MOST_POINTS];
        private final long[] under = new long[MOST_POINTS];
        /** By heights: the back arcs that end lower than this. */
        private final long[] lower = new long[MOST_POINTS + 1];
        /** Of arcs that lead on from one node: the back arcs over each, and their lowest end. */
        private final long[] leading = new long[MOST_POINTS];
        private final int[] lowEnd = new int[MOST_POINTS];
        /** Groups of back arcs whose sides hang together: each has two masks, one a side. */
        private final long[] oneSide = new long[MOST_LINKS + 1];
        private final long[] otherSide = new long[MOST_LINKS + 1];
        private int backs;
        private int groups;

        boolean accepts(int[] joined, int count) {
            if (count < 3) {
                return true;
            }
            int links = 0;
            for (int v = 0; v < count; v++) {
                links += Integer.bitCount(joined[v]);
            }
            if (links / 2 > 3 * count - 6) {
                return false;
            }
            prepare(joined, count);
            for (int v = 0; v < count; v++) {
                if (height[v] < 0) {
                    searchFrom(v);
                }
            }
            for (int h = 1; h <= count; h++) {
                lower[h] |= lower[h - 1];
            }
            for (int v = 0; v < count; v++) {
                if (!sidesFit(findLeading(v, count))) {
                    return false;
                }
            }
            return true;
        }

        private void prepare(int[] joined, int count) {
            backs = 0;
            groups = 0;
            Arrays.fill(lower, 0L);
            for (int v = 0; v < count; v++) {
                height[v] = -1;
                open[v] = joined[v];
                own[v] = 0L;
                under[v] = 0L;
            }
        }

        private void searchFrom(int root) {
            height[root] = 0;
            parent[root] = -1;
            int v = root;
            for (int step = 0; step < MOST_STEPS && v >= 0; step++) {
                if (open[v] == 0) {
                    v = leave(v);
                    continue;
                }
                int w = lowest(open[v]);
                open[v] &= ~(1 << w);
                if (height[w] < 0) {
                    height[w] = height[v] + 1;
                    parent[w] = v;
                    v = w;
                } else if (height[w] < height[v] - 1) {
                    addBack(v, height[w]);
                }
            }
        }

        private int leave(int v) {
            under[v] |= own[v];
            if (parent[v] >= 0) {
                under[parent[v]] |= under[v];
            }
            return parent[v];
        }

        private void addBack(int from, int end) {
            long bit = 1L << backs;
            backs++;
            own[from] |= bit;
            lower[end + 1] |= bit;
        }

        /** For each arc that leads on from a node: the back arcs over it that end below it. */
        private int findLeading(int v, int count) {
            int found = 0;
            if (own[v] != 0L) {
                for (int back = 0; back < backs; back++) {
                    if ((own[v] >>> back & 1L) != 0L) {
                        found = addLeading(found, 1L << back);
                    }
                }
            }
            for (int w = 0; w < count; w++) {
                if (parent[w] == v) {
                    found = addLeading(found, under[w] & lower[height[v]]);
                }
            }
            return found;
        }

        private int addLeading(int found, long mask) {
            if (mask == 0L || found >= MOST_POINTS) {
                return found;
            }
            int low = 0;
            for (int h = 1; h < MOST_POINTS && (mask & lower[h]) == 0L; h++) {
                low = h;
            }
            leading[found] = mask;
            lowEnd[found] = low;
            return found + 1;
        }

        private boolean sidesFit(int found) {
            for (int i = 0; i < found; i++) {
                for (int j = 0; j < i; j++) {
                    long one = leading[i] & ~lower[lowEnd[j] + 1];
                    long other = leading[j] & ~lower[lowEnd[i] + 1];
                    if ((one | other) != 0L && !part(one, other)) {
                        return false;
                    }
                }
            }
            return true;
        }

        /** Back arcs of the first mask have one side, those of the second the other one. */
        private boolean part(long one, long other) {
            long first = one;
            long second = other;
            int kept = 0;
            for (int g = 0; g < groups; g++) {
                long here = oneSide[g];
                long there = otherSide[g];
                if (((here | there) & (one | other)) == 0L) {
                    oneSide[kept] = here;
                    otherSide[kept] = there;
                    kept++;
                } else if ((here & one | there & other) != 0L) {
                    first |= here;
                    second |= there;
                } else {
                    first |= there;
                    second |= here;
                }
            }
            oneSide[kept] = first;
            otherSide[kept] = second;
            groups = kept + 1;
            return (first & second) == 0L;
        }
    }

    /** FILLED, of a graph without LOOPS and ALIKE ARCS. */
    private static final class Filled {
        private final int[] base = new int[MOST_NODES];
        private final int[] joined = new int[MOST_NODES];
        private int nodes = -1;

        /**
         * Whether this is FILLED of a graph: so it is for any graph between the one it was made of
         * and itself, for there each ARC more is taken just if it is taken here.
         */
        boolean isOf(int[] wanted, int count) {
            if (count != nodes) {
                return false;
            }
            for (int v = 0; v < count; v++) {
                if ((base[v] & ~wanted[v]) != 0 || (wanted[v] & ~joined[v]) != 0) {
                    return false;
                }
            }
            return true;
        }

        void fill(int[] wanted, int count, PlaneCheck check) {
            nodes = count;
            System.arraycopy(wanted, 0, base, 0, count);
            System.arraycopy(wanted, 0, joined, 0, count);
            int links = 0;
            for (int v = 0; v < count; v++) {
                links += Integer.bitCount(joined[v]);
            }
            int room = (count < 3 ? count * (count - 1) / 2 : 3 * count - 6) - links / 2;
            for (int v = 0; v < count; v++) {
                for (int w = v + 1; w < count && room > 0; w++) {
                    if (hasBit(joined[v], w)) {
                        continue;
                    }
                    turnOver(v, w);
                    if (check.accepts(joined, count)) {
                        room--;
                    } else {
                        turnOver(v, w);
                    }
                }
            }
        }

        /** Two nodes that were not joined are, or the other way round. */
        private void turnOver(int v, int w) {
            joined[v] ^= 1 << w;
            joined[w] ^= 1 << v;
        }
    }

    /**
     * ROUND. With four or more nodes FILLED is so closely joined that three nodes that are
     * NEIGHBOURS of one another are those of a FACE just if the others hang together without them.
     */
    private static final class Round {
        private final Filled filled;
        /** For two nodes the third ones of the FACES that have both. */
        private final int[] thirds = new int[MOST_NODES * MOST_NODES];
        private final int[] order = new int[MOST_NODES * MOST_NODES];

        Round(Filled filled) {
            this.filled = filled;
        }

        /** The NEIGHBOUR of v that comes behind the NEIGHBOUR w; -1 if there is no such w. */
        int behind(int v, int w) {
            return w >= 0 && w < MOST_NODES ? order[v * MOST_NODES + w] : -1;
        }

        int neighbour(int v, int k) {
            int w = lowest(filled.joined[v]);
            for (int i = 0; i < k; i++) {
                w = behind(v, w);
            }
            return w;
        }

        private int thirdsOf(int v, int w) {
            return thirds[v * MOST_NODES + w];
        }

        void findFaces() {
            Arrays.fill(thirds, 0);
            int[] joined = filled.joined;
            for (int a = 0; a < filled.nodes; a++) {
                for (int b = a + 1; b < filled.nodes; b++) {
                    int both = hasBit(joined[a], b) ? joined[a] & joined[b] : 0;
                    for (int c = b + 1; c < filled.nodes; c++) {
                        if (hasBit(both, c) && isFace(a, b, c)) {
                            addFace(a, b, c);
                            addFace(b, c, a);
                            addFace(c, a, b);
                        }
                    }
                }
            }
        }

        void lay() {
            if (filled.nodes < 4) {
                layRising();
            } else {
                layByThirds();
            }
        }

        private boolean isFace(int a, int b, int c) {
            int others = (1 << filled.nodes) - 1 & ~(1 << a | 1 << b | 1 << c);
            return others == 0 || reached(filled.joined, lowest(others), others) == others;
        }

        private void addFace(int v, int w, int third) {
            thirds[v * MOST_NODES + w] |= 1 << third;
            thirds[w * MOST_NODES + v] |= 1 << third;
        }

        /** With at most two NEIGHBOURS there is but one way round. */
        private void layRising() {
            for (int v = 0; v < filled.nodes; v++) {
                int all = filled.joined[v];
                for (int w = 0; w < filled.nodes; w++) {
                    int more = all & -(2 << w);
                    order[v * MOST_NODES + w] = lowest(more != 0 ? more : all);
                }
            }
        }

        private void layByThirds() {
            Arrays.fill(order, -1);
            int least = lowest(filled.joined[0]);
            if (least >= filled.nodes || thirdsOf(0, least) == 0) {
                return;
            }
            setFace(0, least, lowest(thirdsOf(0, least)));
            int ready = 1;
            int done = 0;
            for (int i = 0; i < filled.nodes && (ready & ~done) != 0; i++) {
                int v = lowest(ready & ~done);
                goRound(v);
                done |= 1 << v;
                ready |= filled.joined[v];
            }
        }

        /** One pair of NEIGHBOURS in order leads to all others. */
        private void goRound(int v) {
            int w = firstKnown(v);
            int next = behind(v, w);
            int count = Integer.bitCount(filled.joined[v]);
            for (int i = 0; i < count && next >= 0; i++) {
                int third = lowest(thirdsOf(v, next) & ~(1 << w));
                if (third >= filled.nodes) {
                    return;
                }
                setFace(v, next, third);
                w = next;
                next = third;
            }
        }

        private int firstKnown(int v) {
            for (int w = 0; w < filled.nodes; w++) {
                if (behind(v, w) >= 0) {
                    return w;
                }
            }
            return 0;
        }

        /** What follows at v is what follows at the other two nodes of the FACE as well. */
        private void setFace(int v, int w, int next) {
            order[v * MOST_NODES + w] = next;
            order[w * MOST_NODES + next] = v;
            order[next * MOST_NODES + v] = w;
        }
    }

    /** THE DRAWING. */
    private static final class Drawing {
        private final Filled filled;
        private final Round ring;
        private final int[] x = new int[MOST_NODES];
        private final int[] y = new int[MOST_NODES];
        private final int[] toA = new int[MOST_NODES];
        private final int[] toB = new int[MOST_NODES];
        private final int[] toC = new int[MOST_NODES];
        private final int[] rimToA = new int[MOST_NODES];
        private final int[] rimToB = new int[MOST_NODES];
        private final int[] overA = new int[MOST_NODES];
        private final int[] overB = new int[MOST_NODES];
        private int a;
        private int b;
        private int c;
        private int rim;

        Drawing(Filled filled, Round ring) {
            this.filled = filled;
            this.ring = ring;
        }

        void lay() {
            Arrays.fill(x, 0);
            Arrays.fill(y, 0);
            if (filled.nodes == 2) {
                x[1] = 1;
            }
            if (filled.nodes >= 3 && findOuter()) {
                findWays();
                countAll();
            }
        }

        /**
         * The least FACE has node 0 and its least NEIGHBOUR; of the two that have both, ROUND is
         * such that it leads at node 0 over the one whose third node is less.
         */
        private boolean findOuter() {
            a = 0;
            b = lowest(filled.joined[a]);
            c = ring.behind(a, b);
            return c >= 0;
        }

        private void findWays() {
            Arrays.fill(toA, -1);
            Arrays.fill(toB, -1);
            Arrays.fill(toC, -1);
            rim = 1 << a | 1 << b | 1 << c;
            link(b, c);
            link(c, a);
            takeOff(c);
            for (int i = 3; i < filled.nodes; i++) {
                takeOff(greatestFree());
            }
        }

        private int greatestFree() {
            for (int v = filled.nodes - 1; v >= 0; v--) {
                if (hasBit(rim, v) && v != a && v != b
                        && Integer.bitCount(filled.joined[v] & rim) == 2) {
                    return v;
                }
            }
            return -1;
        }

        /**
         * As ROUND leads at a from b to c, it leads at each node of the RIM from the way to b over
         * the inner side to the way to a.
         */
        private void takeOff(int v) {
            if (v < 0) {
                return;
            }
            toA[v] = rimToA[v];
            toB[v] = rimToB[v];
            rim &= ~(1 << v);
            int last = toB[v];
            int w = ring.behind(v, last);
            for (int i = 0; i < MOST_NODES && w >= 0 && w != toA[v]; i++) {
                toC[w] = v;
                rim |= 1 << w;
                link(last, w);
                last = w;
                w = ring.behind(v, w);
            }
            link(last, toA[v]);
        }

        /** Two nodes come to lie side by side on the RIM, the first of them nearer to b. */
        private void link(int v, int w) {
            rimToA[v] = w;
            rimToB[w] = v;
        }

        private void countAll() {
            countOver(toA, overA);
            countOver(toB, overB);
            for (int v = 0; v < filled.nodes; v++) {
                if (v != a && v != b && v != c) {
                    x[v] = facesBetween(v, toB, overA);
                    y[v] = facesBetween(v, toA, overB);
                }
            }
            x[a] = 2 * filled.nodes - 5;
            y[b] = 2 * filled.nodes - 5;
        }

        /** For each node: how many nodes, itself with them, have it on their way. */
        private void countOver(int[] way, int[] over) {
            Arrays.fill(over, 0);
            for (int v = 0; v < filled.nodes; v++) {
                int w = v;
                for (int step = 0; step < MOST_NODES && w >= 0; step++) {
                    over[w]++;
                    w = way[w];
                }
            }
        }

        /**
         * The FACES between two ways from v, one of them that to c. The nodes there are those whose
         * third ways come over the two ways; and where all FACES have three nodes, n nodes with m
         * of them on the edge make 2 n - m - 2 FACES.
         */
        private int facesBetween(int v, int[] way, int[] over) {
            int within = -over[v];
            int edge = -1;
            int w = v;
            for (int step = 0; step < MOST_NODES && w >= 0; step++) {
                within += over[w];
                edge++;
                w = way[w];
            }
            w = v;
            for (int step = 0; step < MOST_NODES && w >= 0; step++) {
                within += over[w];
                edge++;
                w = toC[w];
            }
            return 2 * within - edge - 2;
        }

        /** Twice the area of three places, with a sign for the way round. */
        private int area(int p, int q, int r) {
            return (x[q] - x[p]) * (y[r] - y[p]) - (x[r] - x[p]) * (y[q] - y[p]);
        }

        /** Whether the lines from p to q and from p to r go the same way. */
        boolean overlap(int p, int q, int r) {
            int along = (x[q] - x[p]) * (x[r] - x[p]) + (y[q] - y[p]) * (y[r] - y[p]);
            return area(p, q, r) == 0 && along > 0;
        }

        /** Whether the lines from p to q and from r to s have a point in common. */
        boolean meet(int p, int q, int r, int s) {
            if (Math.max(x[p], x[q]) < Math.min(x[r], x[s])
                    || Math.max(x[r], x[s]) < Math.min(x[p], x[q])
                    || Math.max(y[p], y[q]) < Math.min(y[r], y[s])
                    || Math.max(y[r], y[s]) < Math.min(y[p], y[q])) {
                return false;
            }
            return !onOneSide(p, q, r, s) && !onOneSide(r, s, p, q);
        }

        private boolean onOneSide(int p, int q, int r, int s) {
            int one = area(p, q, r);
            int other = area(p, q, s);
            return one > 0 && other > 0 || one < 0 && other < 0;
        }
    }

    /** THE PIECE. */
    private static final class Piece {
        private final Graph graph;
        private final boolean[] kept = new boolean[MOST_ARCS];
        private final int[] endCount = new int[MOST_NODES];

        Piece(Graph graph) {
            this.graph = graph;
        }

        /** The masks are lent as room to work in. */
        void find(int[] masks, PlaneCheck check) {
            for (int k = 0; k < MOST_ARCS; k++) {
                kept[k] = graph.hasArc(k);
            }
            for (int k = graph.made - 1; k >= 0; k--) {
                if (kept[k]) {
                    kept[k] = false;
                    graph.findNeighbours(kept, masks);
                    kept[k] = check.accepts(masks, graph.nodes);
                }
            }
            Arrays.fill(endCount, 0);
            for (int e = 0; e < 2 * graph.made; e++) {
                if (kept[e / 2]) {
                    endCount[graph.at[e]]++;
                }
            }
        }

        int arcAt(int k) {
            int before = 0;
            for (int arc = 0; arc < graph.made; arc++) {
                if (kept[arc]) {
                    if (before == k) {
                        return arc;
                    }
                    before++;
                }
            }
            return NO_SUCH;
        }

        int branchAt(int k) {
            int before = 0;
            for (int v = 0; v < graph.nodes; v++) {
                if (endCount[v] >= 3) {
                    if (before == k) {
                        return v;
                    }
                    before++;
                }
            }
            return NO_SUCH;
        }

        int kind() {
            int fours = 0;
            for (int v = 0; v < graph.nodes; v++) {
                if (endCount[v] == 4) {
                    fours++;
                }
            }
            return fours == 5 ? 5 : 6;
        }

        /** The BRANCH that is reached from an END's node, away from the END's ARC. */
        int branchFrom(int end) {
            int e = end;
            for (int step = 0; step < MOST_NODES && endCount[graph.at[e]] < 3; step++) {
                e = otherEndAt(e) ^ 1;
            }
            return graph.at[e];
        }

        private int otherEndAt(int end) {
            for (int e = 0; e < 2 * graph.made; e++) {
                if (e != end && kept[e / 2] && graph.at[e] == graph.at[end]) {
                    return e;
                }
            }
            return end;
        }
    }
}
