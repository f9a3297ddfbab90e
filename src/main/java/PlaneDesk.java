import java.util.Arrays;

/** A desk for graphs in the plane. The project's document says what each call answers. */
public final class PlaneDesk {
    public static final int NONE = -1;

    private static final int MOST_VERTICES = 20;
    private static final int MOST_EDGES = 60;
    private static final int MOST_DARTS = 2 * MOST_EDGES;
    // What is laid of a block can be drawn, so it has at most 2 V - 4 rings.
    private static final int MOST_RINGS = 2 * MOST_VERTICES;

    private static final int UNKNOWN = 2;

    private static final int KNOT_EDGES_FROM = 100;
    private static final int KNOT_BRANCHES_FROM = 200;

    private final Net net = new Net();
    private final Net trial = new Net();
    private final Layout layout = new Layout();
    private final Turning turning = new Turning();
    private final Walks walks = new Walks();
    private final Tangle tangle = new Tangle();
    private final Drawing drawing = new Drawing();
    private final Colouring colouring = new Colouring();
    private boolean turned;
    private boolean knotted;
    private boolean drawn;
    private boolean coloured;
    // 1 or 0 once it was found out for the edges as they are, so that it is found out once alone.
    private int fitness = UNKNOWN;

    public PlaneDesk() {
        net.begin(0);
    }

    public boolean graph(int n) {
        if (n < 0 || n > MOST_VERTICES) {
            return false;
        }
        net.begin(n);
        forget();
        return true;
    }

    public int join(int u, int v) {
        if (!net.takes(u, v)) {
            return NONE;
        }
        net.add(u, v);
        forget();
        return net.edges - 1;
    }

    public boolean cut(int e) {
        if (!net.hasEdge(e)) {
            return false;
        }
        net.remove(e);
        forget();
        return true;
    }

    public int edge(int e, int what) {
        if (!net.hasEdge(e)) {
            return NONE;
        }
        switch (what) {
            case 0:
                return net.low(e);
            case 1:
                return net.high(e);
            case 2:
                layout.blocks.find(net);
                return layout.blocks.of(e);
            default:
                return NONE;
        }
    }

    public int about(int what) {
        switch (what) {
            case 0:
                return net.vertices;
            case 1:
                return net.edges;
            case 2:
                layout.blocks.find(net);
                return layout.blocks.components;
            case 3:
                return net.lonely();
            case 4:
                layout.blocks.find(net);
                return layout.blocks.count;
            case 5:
                return fits() ? 1 : 0;
            default:
                return NONE;
        }
    }

    public int lay() {
        if (layOut()) {
            return walks.count;
        }
        if (!knotted) {
            tangle.find(net, trial, layout);
            knotted = true;
        }
        return NONE;
    }

    public int turn(int v, int i) {
        return turned ? turning.neighbour(v, i) : NONE;
    }

    public boolean swap(int v, int i, int k) {
        if (!turned || !turning.exchange(v, i, k)) {
            return false;
        }
        walks.find(net, turning);
        return true;
    }

    public int faces() {
        return turned ? walks.count : NONE;
    }

    public int face(int f, int i) {
        return turned ? walks.beginning(net, f, i) : NONE;
    }

    public int genus() {
        if (!turned) {
            return NONE;
        }
        layout.blocks.find(net);
        int twice = 2 * layout.blocks.components - net.lonely() - net.vertices + net.edges - walks.count;
        return twice / 2;
    }

    public int knot(int what) {
        if (!knotted) {
            return NONE;
        }
        switch (what) {
            case 0:
                return tangle.edges.size();
            case 1:
                return tangle.sort();
            case 2:
                return tangle.branches.size();
            default:
                return what >= KNOT_BRANCHES_FROM
                        ? tangle.branches.get(what - KNOT_BRANCHES_FROM)
                        : tangle.edges.get(Math.max(what, 0) - KNOT_EDGES_FROM);
        }
    }

    public int may(int u, int v) {
        if (!net.takes(u, v) || !fits()) {
            return NONE;
        }
        trial.copy(net);
        trial.add(u, v);
        return layout.lays(trial) ? 1 : 0;
    }

    public int fill() {
        if (!fits()) {
            return NONE;
        }
        int before = net.edges;
        for (int u = 0; u < net.vertices; u++) {
            for (int v = u + 1; v < net.vertices; v++) {
                addIfItFits(u, v);
            }
        }
        int came = net.edges - before;
        if (came > 0) {
            forget();
            fitness = 1;
        }
        return came;
    }

    public boolean draw() {
        if (!net.isFull() || !layOut()) {
            return false;
        }
        drawing.make(net, turning, walks.beginning(net, 0, 2));
        drawn = true;
        return true;
    }

    public int at(int v, int what) {
        if (!drawn || !net.hasVertex(v)) {
            return NONE;
        }
        switch (what) {
            case 0:
                return drawing.x[v];
            case 1:
                return drawing.y[v];
            case 2:
                return drawing.order.find(v);
            default:
                return NONE;
        }
    }

    public int colour() {
        coloured = true;
        return colouring.make(net);
    }

    public int colourOf(int v) {
        return coloured && net.hasVertex(v) ? colouring.colours[v] : NONE;
    }

    private void forget() {
        turned = false;
        knotted = false;
        drawn = false;
        coloured = false;
        fitness = UNKNOWN;
    }

    private boolean fits() {
        if (fitness == UNKNOWN) {
            fitness = layout.lays(net) ? 1 : 0;
        }
        return fitness == 1;
    }

    /** Makes the turn anew; changes nothing if the graph can't be laid out. */
    private boolean layOut() {
        if (fitness == 0) {
            return false;
        }
        boolean laid = layout.lays(net);
        fitness = laid ? 1 : 0;
        if (laid) {
            turning.copy(layout.made);
            walks.find(net, turning);
            turned = true;
        }
        return laid;
    }

    private void addIfItFits(int u, int v) {
        // A full graph takes no edge more: without this most of the work would go into finding that out.
        if (net.isFull() || !net.takes(u, v)) {
            return;
        }
        net.add(u, v);
        if (!layout.lays(net)) {
            net.remove(net.edges - 1);
        }
    }

    /** Whether some graph has such a vertex: then it is an index too. */
    private static boolean canBe(int v) {
        return v >= 0 && v < MOST_VERTICES;
    }

    private static int bit(int v) {
        return v >= 0 && v < MOST_VERTICES ? 1 << v : 0;
    }

    private static boolean in(int bits, int v) {
        return v >= 0 && v < MOST_VERTICES && (bits >> v & 1) != 0;
    }

    private static int leastOf(int bits) {
        return bits == 0 ? NONE : Integer.bitCount((bits & -bits) - 1);
    }

    /** Numbers in a row of a fixed room; outside of it one reads NONE. */
    private static final class Row {
        private final int[] cells;
        private int size;

        Row(int room) {
            cells = new int[Math.max(room, 0)];
        }

        int size() {
            return size;
        }

        void clear() {
            size = 0;
        }

        void add(int x) {
            if (size < cells.length) {
                cells[size] = x;
                size++;
            }
        }

        int get(int i) {
            return i >= 0 && i < size ? cells[i] : NONE;
        }

        int find(int x) {
            for (int i = 0; i < size; i++) {
                if (cells[i] == x) {
                    return i;
                }
            }
            return NONE;
        }

        boolean exchange(int i, int k) {
            if (i < 0 || i >= size || k < 0 || k >= size) {
                return false;
            }
            int kept = cells[i];
            cells[i] = cells[k];
            cells[k] = kept;
            return true;
        }

        /** The place behind place i, in a ring. */
        int placeBehind(int i) {
            return i + 1 < size ? i + 1 : 0;
        }

        void copy(Row other) {
            clear();
            for (int i = 0; i < other.size; i++) {
                add(other.get(i));
            }
        }

        /** Adds the other row's places from .. to - 1. */
        void addPart(Row other, int from, int to) {
            for (int i = from; i < to; i++) {
                add(other.get(i));
            }
        }

        void addBackwards(Row other) {
            for (int i = other.size - 1; i >= 0; i--) {
                add(other.get(i));
            }
        }

        /** Adds what stands in a ring from one vertex on to another, both of them too. */
        void addArc(Row ring, int from, int to) {
            int place = ring.find(from);
            for (int step = 0; step < ring.size; step++) {
                int v = ring.get(place);
                add(v);
                if (v == to) {
                    return;
                }
                place = ring.placeBehind(place);
            }
        }

        /** The vertices in the row as bits. */
        int bits() {
            int found = 0;
            for (int i = 0; i < size; i++) {
                found |= bit(cells[i]);
            }
            return found;
        }
    }

    /** The vertices and edges of a graph. */
    private static final class Net {
        private final int[] lower = new int[MOST_EDGES];
        private final int[] higher = new int[MOST_EDGES];
        private final int[] near = new int[MOST_VERTICES];
        private int vertices;
        private int edges;

        void begin(int n) {
            vertices = Math.max(0, Math.min(n, MOST_VERTICES));
            edges = 0;
            Arrays.fill(near, 0);
        }

        void copy(Net other) {
            begin(other.vertices);
            for (int e = 0; e < other.edges; e++) {
                add(other.low(e), other.high(e));
            }
        }

        boolean hasVertex(int v) {
            return v >= 0 && v < vertices;
        }

        boolean hasEdge(int e) {
            return e >= 0 && e < edges;
        }

        int low(int e) {
            return hasEdge(e) ? lower[e] : NONE;
        }

        int high(int e) {
            return hasEdge(e) ? higher[e] : NONE;
        }

        /** The neighbours as bits. */
        int around(int v) {
            return v >= 0 && v < vertices ? near[v] : 0;
        }

        /** The neighbours of some vertices; these and those as bits. */
        int aroundAll(int bits) {
            int found = 0;
            for (int v = 0; v < vertices; v++) {
                if ((bits >> v & 1) != 0) {
                    found |= near[v];
                }
            }
            return found;
        }

        boolean joined(int u, int v) {
            return u >= 0 && u < vertices && in(near[u], v);
        }

        boolean takes(int u, int v) {
            return u >= 0 && u < vertices && v >= 0 && v < vertices
                    && u != v && (near[u] >> v & 1) == 0 && edges < MOST_EDGES;
        }

        void add(int u, int v) {
            if (!takes(u, v)) {
                return;
            }
            lower[edges] = Math.min(u, v);
            higher[edges] = Math.max(u, v);
            near[u] |= bit(v);
            near[v] |= bit(u);
            edges++;
        }

        void remove(int e) {
            if (!hasEdge(e)) {
                return;
            }
            int u = lower[e];
            int v = higher[e];
            near[u] &= ~bit(v);
            near[v] &= ~bit(u);
            edges--;
            for (int i = e; i < edges; i++) {
                lower[i] = lower[i + 1];
                higher[i] = higher[i + 1];
            }
        }

        int lonely() {
            int found = 0;
            for (int v = 0; v < vertices; v++) {
                if (near[v] == 0) {
                    found++;
                }
            }
            return found;
        }

        /** Whether it has as many edges as a graph in the plane can have. */
        boolean isFull() {
            return vertices >= 3 && edges == 3 * vertices - 6;
        }
    }

    /**
     * The blocks and components of a graph. Two edges are of one block if rings lead from one to
     * the other, and those rings are enough that one edge closes with the edges of a forest. Each
     * edge of the forest is known by its end that is farther from the root.
     */
    private static final class Blocks {
        private final int[] up = new int[MOST_VERTICES];
        private final int[] depth = new int[MOST_VERTICES];
        // Leads by and by to the vertex whose forest edge stands for all of its block.
        private final int[] toward = new int[MOST_VERTICES];
        private final int[] numberFor = new int[MOST_VERTICES];
        private final int[] number = new int[MOST_EDGES];
        private final Row queue = new Row(MOST_VERTICES);
        private int seen;
        private int components;
        private int count;

        int of(int e) {
            return e >= 0 && e < MOST_EDGES ? number[e] : NONE;
        }

        void find(Net net) {
            seen = 0;
            components = 0;
            for (int root = 0; root < net.vertices; root++) {
                if (!in(seen, root)) {
                    components++;
                    growTree(net, root);
                }
            }
            for (int e = 0; e < net.edges; e++) {
                closeRing(net.low(e), net.high(e));
            }
            giveNumbers(net);
        }

        private void growTree(Net net, int root) {
            queue.clear();
            reach(root, NONE, 0);
            for (int i = 0; i < MOST_VERTICES && i < queue.size(); i++) {
                int x = queue.get(i);
                int fresh = net.around(x) & ~seen;
                int deep = canBe(x) ? depth[x] + 1 : 0;
                for (int y = 0; y < net.vertices && fresh != 0; y++) {
                    if (in(fresh, y)) {
                        reach(y, x, deep);
                    }
                }
            }
        }

        private void reach(int v, int from, int deep) {
            if (!canBe(v)) {
                return;
            }
            seen |= bit(v);
            up[v] = from;
            depth[v] = deep;
            toward[v] = v;
            numberFor[v] = NONE;
            queue.add(v);
        }

        private int deeper(int u, int v) {
            return !canBe(u) || !canBe(v) ? NONE : depth[u] > depth[v] ? u : v;
        }

        /** Goes up from both ends until they meet: all that is gone over is one ring. */
        private void closeRing(int low, int high) {
            int u = low;
            int v = high;
            int first = deeper(u, v);
            for (int step = 0; step < 2 * MOST_VERTICES && u != v; step++) {
                int next = deeper(u, v);
                if (!canBe(next)) {
                    return;
                }
                merge(first, next);
                if (next == u) {
                    u = up[u];
                } else {
                    v = up[v];
                }
            }
        }

        private void merge(int u, int v) {
            int a = standingFor(u);
            int b = standingFor(v);
            if (canBe(a) && canBe(b)) {
                toward[a] = b;
            }
        }

        private int standingFor(int v) {
            int at = v;
            for (int step = 0; step < MOST_VERTICES && at >= 0 && at < MOST_VERTICES; step++) {
                if (toward[at] == at) {
                    return at;
                }
                at = toward[at];
            }
            return NONE;
        }

        private void giveNumbers(Net net) {
            count = 0;
            for (int e = 0; e < net.edges; e++) {
                int stand = standingFor(deeper(net.low(e), net.high(e)));
                if (!canBe(stand)) {
                    continue;
                }
                if (numberFor[stand] == NONE) {
                    numberFor[stand] = count;
                    count++;
                }
                number[e] = numberFor[stand];
            }
        }
    }

    /** Around each vertex its neighbours in an order. */
    private static final class Turning {
        private final Row[] rows = new Row[MOST_VERTICES];

        Turning() {
            for (int v = 0; v < MOST_VERTICES; v++) {
                rows[v] = new Row(MOST_VERTICES);
            }
        }

        void clear() {
            for (int v = 0; v < MOST_VERTICES; v++) {
                rows[v].clear();
            }
        }

        void copy(Turning other) {
            for (int v = 0; v < MOST_VERTICES; v++) {
                rows[v].copy(other.rows[v]);
            }
        }

        void add(int v, int neighbour) {
            if (canBe(v)) {
                rows[v].add(neighbour);
            }
        }

        int neighbour(int v, int i) {
            return canBe(v) ? rows[v].get(i) : NONE;
        }

        boolean exchange(int v, int i, int k) {
            return canBe(v) && rows[v].exchange(i, k);
        }

        /** The neighbour that follows x around v. */
        int behind(int v, int x) {
            if (!canBe(v)) {
                return NONE;
            }
            int place = rows[v].find(x);
            return place == NONE ? NONE : rows[v].get(rows[v].placeBehind(place));
        }
    }

    /** The rings of a block that is being laid, in a row. */
    private static final class Rings {
        private final Row[] rows = new Row[MOST_RINGS];
        private final int[] bits = new int[MOST_RINGS];
        private final Row whole = new Row(MOST_VERTICES);
        private int count;

        Rings() {
            for (int r = 0; r < MOST_RINGS; r++) {
                rows[r] = new Row(MOST_VERTICES);
            }
        }

        private boolean has(int r) {
            return r >= 0 && r < count;
        }

        int size(int r) {
            return has(r) ? rows[r].size() : 0;
        }

        int get(int r, int i) {
            return has(r) ? rows[r].get(i) : NONE;
        }

        int placeBehind(int r, int i) {
            return has(r) ? rows[r].placeBehind(i) : 0;
        }

        /** The first ring, from one on, that has all the feet. */
        int fitting(int feet, int from) {
            for (int r = Math.max(from, 0); r < count; r++) {
                if ((bits[r] & feet) == feet) {
                    return r;
                }
            }
            return NONE;
        }

        /** The first two rings; the way is told from the low end's side to the high end's. */
        void begin(int low, int high, Row way) {
            Row there = rows[0];
            there.clear();
            there.add(low);
            there.add(high);
            there.addBackwards(way);
            Row back = rows[1];
            back.clear();
            back.add(low);
            back.addPart(way, 0, way.size());
            back.add(high);
            bits[0] = there.bits();
            bits[1] = bits[0];
            count = 2;
        }

        /** Parts ring r by a way between two of its vertices; the way is told from b's side to a's. */
        void part(int r, int a, int b, Row way) {
            if (!has(r) || count >= MOST_RINGS) {
                return;
            }
            whole.copy(rows[r]);
            rows[r].clear();
            rows[r].addArc(whole, a, b);
            rows[r].addPart(way, 0, way.size());
            bits[r] = rows[r].bits();
            rows[count].clear();
            rows[count].addArc(whole, b, a);
            rows[count].addBackwards(way);
            bits[count] = rows[count].bits();
            count++;
        }
    }

    /** Ways found breadth first. */
    private static final class Search {
        private final int[] cameFrom = new int[MOST_VERTICES];
        private final Row queue = new Row(MOST_VERTICES);
        // What is between the goal and the beginning, from the goal's side.
        private final Row way = new Row(MOST_VERTICES);
        private int goal;

        /** The shortest way through at least one of the vertices that it may go through. */
        void seek(Net net, int from, int through, int goals) {
            int left = through;
            goal = NONE;
            queue.clear();
            queue.add(from);
            for (int i = 0; i < MOST_VERTICES && i < queue.size() && goal == NONE; i++) {
                int x = queue.get(i);
                int next = net.around(x) & (x == from ? left : left | goals);
                left &= ~next;
                for (int v = 0; v < MOST_VERTICES && goal == NONE; v++) {
                    if (in(next, v)) {
                        cameFrom[v] = x;
                        queue.add(v);
                        goal = in(goals, v) ? v : NONE;
                    }
                }
            }
            traceBack(from);
        }

        /** A way of one edge. */
        void goStraight(int to) {
            goal = to;
            way.clear();
        }

        private void traceBack(int from) {
            way.clear();
            int v = goal;
            for (int step = 0; step < MOST_VERTICES; step++) {
                if (!canBe(v) || cameFrom[v] == from) {
                    return;
                }
                v = cameFrom[v];
                way.add(v);
            }
        }
    }

    /** Lays a graph out, block by block, or finds that it can't be. */
    private static final class Layout {
        private final Blocks blocks = new Blocks();
        private final Turning made = new Turning();
        private final Net block = new Net();
        // The edges of the block that are laid.
        private final Net done = new Net();
        private final Rings rings = new Rings();
        private final Search search = new Search();
        // At place MOST_VERTICES * y + x: what follows x around y in the block.
        private final int[] follower = new int[MOST_VERTICES * MOST_VERTICES];
        private int laid;
        // The part that is to be laid next: its vertices that aren't laid, its feet, its ring.
        private int chosenInner;
        private int chosenFeet;
        private int chosenRing;
        private boolean chosenFitsOneAlone;

        boolean lays(Net net) {
            blocks.find(net);
            made.clear();
            for (int b = 0; b < blocks.count; b++) {
                takeBlock(net, b);
                if (block.edges == 1) {
                    made.add(block.low(0), block.high(0));
                    made.add(block.high(0), block.low(0));
                } else {
                    layFirstRing();
                    if (!laysRest()) {
                        return false;
                    }
                    tellTurn();
                }
            }
            return true;
        }

        private void takeBlock(Net net, int b) {
            block.begin(net.vertices);
            for (int e = 0; e < net.edges; e++) {
                if (blocks.of(e) == b) {
                    block.add(net.low(e), net.high(e));
                }
            }
        }

        private void layFirstRing() {
            int low = block.low(0);
            int high = block.high(0);
            laid = 0;
            done.begin(block.vertices);
            done.add(low, high);
            search.seek(block, high, ~(bit(low) | bit(high)), bit(low));
            rings.begin(low, high, search.way);
            markWay(high);
        }

        private boolean laysRest() {
            for (int round = 0; round < MOST_EDGES && done.edges < block.edges; round++) {
                if (!choosePart()) {
                    return false;
                }
                int a = leastOf(chosenFeet);
                findWay(a);
                rings.part(chosenRing, a, search.goal, search.way);
                markWay(a);
            }
            return done.edges == block.edges;
        }

        private void findWay(int a) {
            int others = chosenFeet & ~bit(a);
            if (chosenInner == 0) {
                search.goStraight(leastOf(others));
            } else {
                search.seek(block, a, chosenInner, others);
            }
        }

        /** Marks the way that was found from a on as laid. */
        private void markWay(int a) {
            int last = search.goal;
            for (int i = 0; i < search.way.size(); i++) {
                done.add(last, search.way.get(i));
                last = search.way.get(i);
            }
            done.add(last, a);
            laid |= bit(a) | bit(search.goal) | search.way.bits();
        }

        /** False if some part fits no ring. */
        private boolean choosePart() {
            int seen = 0;
            chosenRing = NONE;
            chosenFitsOneAlone = false;
            for (int e = 0; e < block.edges; e++) {
                int ends = bit(block.low(e)) | bit(block.high(e));
                int outside = ends & ~laid;
                if ((outside & seen) != 0 || done.joined(block.low(e), block.high(e))) {
                    continue;
                }
                int part = outside == 0 ? ends : spread(outside);
                seen |= part & ~laid;
                if (!weigh(part & ~laid, part & laid)) {
                    return false;
                }
            }
            return chosenRing != NONE;
        }

        private boolean weigh(int inner, int feet) {
            int first = rings.fitting(feet, 0);
            if (first == NONE) {
                return false;
            }
            if (chosenFitsOneAlone) {
                return true;
            }
            boolean alone = rings.fitting(feet, first + 1) == NONE;
            if (alone || chosenRing == NONE) {
                chosenInner = inner;
                chosenFeet = feet;
                chosenRing = first;
                chosenFitsOneAlone = alone;
            }
            return true;
        }

        /** What hangs together with these vertices by vertices that aren't laid, and the feet of all that. */
        private int spread(int from) {
            int reached = from;
            for (int step = 0; step < MOST_VERTICES; step++) {
                int wider = reached | block.aroundAll(reached & ~laid);
                if (wider == reached) {
                    break;
                }
                reached = wider;
            }
            return reached;
        }

        private void tellTurn() {
            for (int r = 0; r < rings.count; r++) {
                tellRing(r);
            }
            for (int y = 0; y < block.vertices; y++) {
                tellAround(y);
            }
        }

        private void tellRing(int r) {
            int size = rings.size(r);
            int x = rings.get(r, size - 1);
            for (int i = 0; i < size; i++) {
                int y = rings.get(r, i);
                if (block.hasVertex(x) && block.hasVertex(y)) {
                    follower[MOST_VERTICES * y + x] = rings.get(r, rings.placeBehind(r, i));
                }
                x = y;
            }
        }

        private void tellAround(int y) {
            int x = leastOf(block.around(y));
            int degree = Integer.bitCount(block.around(y));
            for (int i = 0; i < degree && block.hasVertex(y) && block.hasVertex(x); i++) {
                made.add(y, x);
                x = follower[MOST_VERTICES * y + x];
            }
        }
    }

    /** The faces of a turn, gone round dart by dart. */
    private static final class Walks {
        private final int[] next = new int[MOST_DARTS];
        // At place MOST_VERTICES * x + y: the dart from x to y.
        private final int[] dartAt = new int[MOST_VERTICES * MOST_VERTICES];
        private final int[] faceOf = new int[MOST_DARTS];
        private final Row firsts = new Row(MOST_DARTS);
        private int count;

        void find(Net net, Turning turning) {
            nameDarts(net);
            for (int dart = 0; dart < 2 * net.edges && dart < MOST_DARTS; dart++) {
                int y = beginOf(net, dart ^ 1);
                int z = turning.behind(y, beginOf(net, dart));
                next[dart] = net.joined(y, z) ? dartAt[MOST_VERTICES * y + z] : NONE;
                faceOf[dart] = NONE;
            }
            count = 0;
            firsts.clear();
            for (int dart = 0; dart < 2 * net.edges && dart < MOST_DARTS; dart++) {
                if (faceOf[dart] == NONE) {
                    goRound(dart);
                }
            }
        }

        private void nameDarts(Net net) {
            for (int e = 0; e < net.edges; e++) {
                int u = net.low(e);
                int v = net.high(e);
                if (net.hasVertex(u) && net.hasVertex(v)) {
                    dartAt[MOST_VERTICES * u + v] = 2 * e;
                    dartAt[MOST_VERTICES * v + u] = 2 * e + 1;
                }
            }
        }

        private void goRound(int first) {
            int dart = first;
            for (int step = 0; step < MOST_DARTS; step++) {
                if (dart < 0 || dart >= MOST_DARTS || faceOf[dart] != NONE) {
                    break;
                }
                faceOf[dart] = count;
                dart = next[dart];
            }
            firsts.add(first);
            count++;
        }

        private int beginOf(Net net, int dart) {
            return (dart & 1) == 0 ? net.low(dart >> 1) : net.high(dart >> 1);
        }

        /** Where dart i of face f begins. */
        int beginning(Net net, int f, int i) {
            int first = firsts.get(f);
            if (i < 0 || i >= MOST_DARTS || first == NONE) {
                return NONE;
            }
            int dart = first;
            for (int step = 0; step < i; step++) {
                if (dart < 0 || dart >= MOST_DARTS) {
                    return NONE;
                }
                dart = next[dart];
                if (dart == first) {
                    return NONE;
                }
            }
            return beginOf(net, dart);
        }
    }

    /** The knot of a graph that can't be laid out. */
    private static final class Tangle {
        private final Row edges = new Row(MOST_EDGES);
        private final Row branches = new Row(MOST_VERTICES);
        private long out;

        void find(Net net, Net trial, Layout layout) {
            out = 0L;
            edges.clear();
            for (int e = 0; e < net.edges; e++) {
                out |= 1L << e;
                takeRest(net, trial);
                if (layout.lays(trial)) {
                    out &= ~(1L << e);
                    edges.add(e);
                }
            }
            takeRest(net, trial);
            branches.clear();
            for (int v = 0; v < trial.vertices; v++) {
                if (Integer.bitCount(trial.around(v)) >= 3) {
                    branches.add(v);
                }
            }
        }

        private void takeRest(Net net, Net trial) {
            trial.begin(net.vertices);
            for (int e = 0; e < net.edges; e++) {
                if ((out >> e & 1L) == 0L) {
                    trial.add(net.low(e), net.high(e));
                }
            }
        }

        int sort() {
            return branches.size() == 5 ? 5 : 3;
        }
    }

    /** A full graph drawn by straight lines. */
    private static final class Drawing {
        private final int[] x = new int[MOST_VERTICES];
        private final int[] y = new int[MOST_VERTICES];
        private final int[] carried = new int[MOST_VERTICES];
        private final Row order = new Row(MOST_VERTICES);
        private final Row backwards = new Row(MOST_VERTICES);
        // The rim while the order is found, then the crest.
        private final Row line = new Row(MOST_VERTICES);
        private final Row newLine = new Row(MOST_VERTICES);

        /** Face 0 begins with dart 0, so A and B are the ends of edge 0. */
        void make(Net net, Turning turning, int c) {
            findOrder(net, turning, net.low(0), net.high(0), c);
            for (int v = 0; v < MOST_VERTICES; v++) {
                carried[v] = bit(v);
            }
            put(order.get(0), 0, 0);
            put(order.get(1), 2, 0);
            put(order.get(2), 1, 1);
            startLine(order.get(0), order.get(2), order.get(1));
            for (int place = 3; place < order.size(); place++) {
                raise(net, order.get(place));
            }
        }

        private void startLine(int first, int second, int third) {
            line.clear();
            line.add(first);
            line.add(second);
            line.add(third);
        }

        private void put(int v, int atX, int atY) {
            if (canBe(v)) {
                x[v] = atX;
                y[v] = atY;
            }
        }

        private void findOrder(Net net, Turning turning, int a, int b, int c) {
            startLine(a, c, b);
            backwards.clear();
            for (int place = net.vertices - 1; place >= 2; place--) {
                int at = findFree(net);
                backwards.add(line.get(at));
                takeFromRim(turning, at);
            }
            order.clear();
            order.add(a);
            order.add(b);
            order.addBackwards(backwards);
        }

        /** The place on the rim of the least vertex that no edge ties to the rim elsewhere. */
        private int findFree(Net net) {
            int rim = line.bits();
            int found = NONE;
            for (int i = 1; i < line.size() - 1; i++) {
                int nextTo = bit(line.get(i - 1)) | bit(line.get(i + 1));
                boolean free = (net.around(line.get(i)) & rim & ~nextTo) == 0;
                if (free && (found == NONE || line.get(i) < line.get(found))) {
                    found = i;
                }
            }
            return found;
        }

        private void takeFromRim(Turning turning, int at) {
            int v = line.get(at);
            int end = line.get(at + 1);
            int between = turning.behind(v, line.get(at - 1));
            newLine.clear();
            newLine.addPart(line, 0, at);
            for (int step = 0; step < MOST_VERTICES && between != end && between != NONE; step++) {
                newLine.add(between);
                between = turning.behind(v, between);
            }
            newLine.addPart(line, at + 1, line.size());
            line.copy(newLine);
        }

        private void raise(Net net, int v) {
            int p = NONE;
            int q = NONE;
            for (int i = 0; i < line.size(); i++) {
                if (net.joined(v, line.get(i))) {
                    p = p == NONE ? i : p;
                    q = i;
                }
            }
            int below = carriedByLine(p + 1, q);
            move(below, 1);
            move(carriedByLine(q, line.size()), 2);
            putAbove(v, line.get(p), line.get(q));
            if (canBe(v)) {
                carried[v] = below | bit(v);
            }
            newLine.clear();
            newLine.addPart(line, 0, p + 1);
            newLine.add(v);
            newLine.addPart(line, q, line.size());
            line.copy(newLine);
        }

        private int carriedByLine(int from, int to) {
            int bits = 0;
            for (int i = from; i < to; i++) {
                int v = line.get(i);
                bits |= canBe(v) ? carried[v] : 0;
            }
            return bits;
        }

        private void move(int bits, int far) {
            for (int v = 0; v < MOST_VERTICES; v++) {
                if (in(bits, v)) {
                    x[v] += far;
                }
            }
        }

        private void putAbove(int v, int p, int q) {
            if (canBe(p) && canBe(q)) {
                put(v, (x[p] + x[q] + y[q] - y[p]) / 2, (x[q] - x[p] + y[p] + y[q]) / 2);
            }
        }
    }

    /** Colours of the vertices so that neighbours differ. */
    private static final class Colouring {
        private final int[] colours = new int[MOST_VERTICES];
        private final Row taken = new Row(MOST_VERTICES);

        /** How many colours it took. */
        int make(Net net) {
            takeAll(net);
            int most = 0;
            int done = 0;
            for (int i = taken.size() - 1; i >= 0; i--) {
                int v = taken.get(i);
                int colour = leastFree(net.around(v) & done);
                if (canBe(v)) {
                    colours[v] = colour;
                }
                done |= bit(v);
                most = Math.max(most, colour + 1);
            }
            return most;
        }

        private void takeAll(Net net) {
            int left = 0;
            for (int v = 0; v < net.vertices; v++) {
                left |= bit(v);
            }
            taken.clear();
            for (int i = 0; i < net.vertices; i++) {
                int v = leastTied(net, left);
                taken.add(v);
                left &= ~bit(v);
            }
        }

        private int leastTied(Net net, int left) {
            int found = NONE;
            int ties = MOST_VERTICES;
            for (int v = 0; v < net.vertices; v++) {
                int here = Integer.bitCount(net.around(v) & left);
                if (in(left, v) && here < ties) {
                    found = v;
                    ties = here;
                }
            }
            return found;
        }

        private int leastFree(int neighbours) {
            int used = 0;
            for (int v = 0; v < MOST_VERTICES; v++) {
                if (in(neighbours, v)) {
                    used |= bit(colours[v]);
                }
            }
            return leastOf(~used);
        }
    }
}
