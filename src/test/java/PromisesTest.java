/** The promises one by one: ordinary calls, the edges that the document names, wrong inputs. */
public final class PromisesTest {
    private static final int NONE = PlaneDesk.NONE;
    private static final int[] WRONG = {-1, -2, 20, 21, 60, 61, 1000, Integer.MIN_VALUE, Integer.MAX_VALUE};

    private static int wrong = 0;
    private static int looked = 0;
    private static int promise = 0;

    private static void due(String what, int got, int want) {
        looked++;
        if (got != want) {
            wrong++;
            System.out.println("promise " + promise + ": " + what + " answered " + got + ", due is " + want);
        }
    }

    private static void due(String what, boolean got, boolean want) {
        due(what, got ? 1 : 0, want ? 1 : 0);
    }

    public static void main(String[] args) {
        newObject();
        graph();
        join();
        cut();
        edge();
        about();
        lay();
        turn();
        swap();
        faces();
        face();
        genus();
        knot();
        may();
        fill();
        draw();
        at();
        colour();
        colourOf();
        wrongInputs();
        System.out.println(looked + " answers looked at, " + wrong + " wrong");
        if (wrong != 0) {
            System.exit(1);
        }
    }

    private static PlaneDesk desk(int n, int... ends) {
        PlaneDesk desk = new PlaneDesk();
        desk.graph(n);
        for (int i = 0; i + 1 < ends.length; i += 2) {
            desk.join(ends[i], ends[i + 1]);
        }
        return desk;
    }

    /** The first n with each other, as long as there is room. */
    private static PlaneDesk allWithAll(int vertices, int n) {
        PlaneDesk desk = desk(vertices);
        for (int u = 0; u < n; u++) {
            for (int v = u + 1; v < n; v++) {
                desk.join(u, v);
            }
        }
        return desk;
    }

    /** Five with each other but for the last edge: full, it can be laid out. */
    private static PlaneDesk fiveLessOne() {
        PlaneDesk desk = allWithAll(5, 5);
        desk.cut(9);
        return desk;
    }

    private static PlaneDesk house() {
        return desk(5, 0, 1, 1, 2, 2, 3, 0, 3, 0, 2, 1, 4, 3, 4);
    }

    private static PlaneDesk octahedron() {
        return desk(6, 0, 1, 0, 2, 0, 3, 0, 4, 1, 2, 1, 3, 1, 5, 2, 4, 2, 5, 3, 4, 3, 5, 4, 5);
    }

    private static void dueTurn(PlaneDesk desk, int v, int... neighbours) {
        for (int i = 0; i < neighbours.length; i++) {
            due("turn(" + v + ", " + i + ")", desk.turn(v, i), neighbours[i]);
        }
        due("turn(" + v + ", " + neighbours.length + ")", desk.turn(v, neighbours.length), NONE);
    }

    private static void dueFace(PlaneDesk desk, int f, int... begins) {
        for (int i = 0; i < begins.length; i++) {
            due("face(" + f + ", " + i + ")", desk.face(f, i), begins[i]);
        }
        due("face(" + f + ", " + begins.length + ")", desk.face(f, begins.length), NONE);
    }

    private static void dueAt(PlaneDesk desk, int v, int x, int y, int place) {
        due("at(" + v + ", 0)", desk.at(v, 0), x);
        due("at(" + v + ", 1)", desk.at(v, 1), y);
        due("at(" + v + ", 2)", desk.at(v, 2), place);
    }

    /** A desk on which everything but a knot is there; edge 0 joins 0 and 1. */
    private static PlaneDesk busy() {
        PlaneDesk desk = fiveLessOne();
        desk.draw();
        desk.colour();
        return desk;
    }

    private static void dueBusy(String behind, PlaneDesk desk, boolean there) {
        due("turn there behind " + behind, desk.turn(0, 0), there ? 1 : NONE);
        due("faces there behind " + behind, desk.faces(), there ? 6 : NONE);
        due("face there behind " + behind, desk.face(0, 0), there ? 0 : NONE);
        due("genus there behind " + behind, desk.genus(), there ? 0 : NONE);
        due("drawn behind " + behind, desk.at(1, 0), there ? 6 : NONE);
        due("order behind " + behind, desk.at(0, 2), there ? 0 : NONE);
        due("coloured behind " + behind, desk.colourOf(4), there ? 0 : NONE);
    }

    private static void newObject() {
        promise = 1;
        PlaneDesk desk = new PlaneDesk();
        int[] abouts = {0, 0, 0, 0, 0, 1};
        for (int what = 0; what < abouts.length; what++) {
            due("about(" + what + ")", desk.about(what), abouts[what]);
        }
        due("join(0, 1)", desk.join(0, 1), NONE);
        due("cut(0)", desk.cut(0), false);
        due("edge(0, 0)", desk.edge(0, 0), NONE);
        due("turn(0, 0)", desk.turn(0, 0), NONE);
        due("swap(0, 0, 0)", desk.swap(0, 0, 0), false);
        due("faces()", desk.faces(), NONE);
        due("face(0, 0)", desk.face(0, 0), NONE);
        due("genus()", desk.genus(), NONE);
        due("knot(0)", desk.knot(0), NONE);
        due("may(0, 1)", desk.may(0, 1), NONE);
        due("fill()", desk.fill(), 0);
        due("draw()", desk.draw(), false);
        due("at(0, 0)", desk.at(0, 0), NONE);
        due("colourOf(0)", desk.colourOf(0), NONE);
        due("lay()", desk.lay(), 0);
        due("faces()", desk.faces(), 0);
        due("genus()", desk.genus(), 0);
        due("colour()", desk.colour(), 0);
        due("colourOf(0)", desk.colourOf(0), NONE);
        due("NONE", NONE, -1);
    }

    private static void graph() {
        promise = 2;
        PlaneDesk desk = busy();
        for (int n : new int[] {-1, 21, Integer.MIN_VALUE, Integer.MAX_VALUE}) {
            due("graph(" + n + ")", desk.graph(n), false);
            due("about(0)", desk.about(0), 5);
            due("about(1)", desk.about(1), 9);
            dueBusy("graph(" + n + ")", desk, true);
        }
        due("graph(5)", desk.graph(5), true);
        due("about(0)", desk.about(0), 5);
        due("about(1)", desk.about(1), 0);
        dueBusy("graph(5)", desk, false);
        due("graph(20)", desk.graph(20), true);
        due("about(0)", desk.about(0), 20);
        due("join(19, 0)", desk.join(19, 0), 0);
        due("join(20, 0)", desk.join(20, 0), NONE);
        due("graph(0)", desk.graph(0), true);
        due("about(0)", desk.about(0), 0);
        PlaneDesk knotted = allWithAll(5, 5);
        knotted.lay();
        due("graph(21)", knotted.graph(21), false);
        due("knot(0)", knotted.knot(0), 10);
        due("graph(5)", knotted.graph(5), true);
        due("knot(0)", knotted.knot(0), NONE);
        due("about(5)", knotted.about(5), 1);
    }

    private static void join() {
        promise = 3;
        PlaneDesk desk = desk(4);
        due("join(3, 1)", desk.join(3, 1), 0);
        due("join(0, 1)", desk.join(0, 1), 1);
        due("join(1, 3)", desk.join(1, 3), NONE);
        due("join(3, 1)", desk.join(3, 1), NONE);
        due("join(2, 2)", desk.join(2, 2), NONE);
        due("join(4, 0)", desk.join(4, 0), NONE);
        due("join(0, 4)", desk.join(0, 4), NONE);
        due("join(-1, 0)", desk.join(-1, 0), NONE);
        due("join(0, -1)", desk.join(0, -1), NONE);
        due("about(1)", desk.about(1), 2);
        due("join(0, 2)", desk.join(0, 2), 2);
        PlaneDesk busy = busy();
        due("join(0, 1)", busy.join(0, 1), NONE);
        dueBusy("join(0, 1)", busy, true);
        due("join(4, 3)", busy.join(4, 3), 9);
        dueBusy("join(4, 3)", busy, false);
        due("about(5)", busy.about(5), 0);
        PlaneDesk most = allWithAll(12, 12);
        due("about(1)", most.about(1), 60);
        due("join(10, 11)", most.join(10, 11), NONE);
        due("cut(0)", most.cut(0), true);
        due("join(10, 11)", most.join(10, 11), 59);
        due("join(0, 1)", most.join(0, 1), NONE);
    }

    private static void cut() {
        promise = 4;
        PlaneDesk desk = desk(4, 0, 1, 1, 2, 2, 3, 3, 0);
        due("cut(4)", desk.cut(4), false);
        due("cut(-1)", desk.cut(-1), false);
        due("about(1)", desk.about(1), 4);
        due("cut(1)", desk.cut(1), true);
        due("about(1)", desk.about(1), 3);
        due("edge(0, 1)", desk.edge(0, 1), 1);
        due("edge(1, 0)", desk.edge(1, 0), 2);
        due("edge(1, 1)", desk.edge(1, 1), 3);
        due("edge(2, 0)", desk.edge(2, 0), 0);
        due("edge(2, 1)", desk.edge(2, 1), 3);
        due("edge(3, 0)", desk.edge(3, 0), NONE);
        due("join(2, 1)", desk.join(2, 1), 3);
        PlaneDesk busy = busy();
        due("cut(9)", busy.cut(9), false);
        dueBusy("cut(9)", busy, true);
        due("cut(8)", busy.cut(8), true);
        dueBusy("cut(8)", busy, false);
        PlaneDesk knotted = allWithAll(6, 6);
        knotted.lay();
        due("cut(15)", knotted.cut(15), false);
        due("knot(1)", knotted.knot(1) == NONE, false);
        due("cut(14)", knotted.cut(14), true);
        due("knot(1)", knotted.knot(1), NONE);
    }

    private static void edge() {
        promise = 5;
        // Two triangles with vertex 2 in common, a bridge to 5, an edge by itself.
        PlaneDesk desk = desk(8, 2, 5, 3, 2, 0, 1, 3, 4, 2, 1, 4, 2, 0, 2, 7, 6);
        int[][] want = {{2, 5, 0}, {2, 3, 1}, {0, 1, 2}, {3, 4, 1}, {1, 2, 2}, {2, 4, 1}, {0, 2, 2}, {6, 7, 3}};
        for (int e = 0; e < want.length; e++) {
            for (int what = 0; what < 3; what++) {
                due("edge(" + e + ", " + what + ")", desk.edge(e, what), want[e][what]);
            }
            due("edge(" + e + ", 3)", desk.edge(e, 3), NONE);
            due("edge(" + e + ", -1)", desk.edge(e, -1), NONE);
        }
        due("edge(8, 0)", desk.edge(8, 0), NONE);
        due("edge(-1, 0)", desk.edge(-1, 0), NONE);
        due("edge(8, 2)", desk.edge(8, 2), NONE);
        desk.join(1, 3);
        due("edge(1, 2)", desk.edge(1, 2), 1);
        due("edge(2, 2)", desk.edge(2, 2), 1);
        due("edge(7, 2)", desk.edge(7, 2), 2);
    }

    private static void about() {
        promise = 6;
        PlaneDesk desk = desk(9, 2, 5, 3, 2, 0, 1, 3, 4, 2, 1, 4, 2, 0, 2, 7, 6);
        int[] want = {9, 8, 3, 1, 4, 1};
        for (int what = 0; what < want.length; what++) {
            due("about(" + what + ")", desk.about(what), want[what]);
        }
        due("about(6)", desk.about(6), NONE);
        due("about(-1)", desk.about(-1), NONE);
        due("turn(0, 0) behind about(5)", desk.turn(0, 0), NONE);
        PlaneDesk six = desk(6, 0, 3, 0, 4, 0, 5, 1, 3, 1, 4, 1, 5, 2, 3, 2, 4, 2, 5);
        due("about(5)", six.about(5), 0);
        due("knot(0) behind about(5)", six.knot(0), NONE);
        six.cut(8);
        due("about(5)", six.about(5), 1);
        PlaneDesk busy = busy();
        busy.swap(0, 0, 1);
        busy.about(5);
        due("turn(0, 0) behind swap and about(5)", busy.turn(0, 0), 4);
        due("about(5) of 60 edges", allWithAll(12, 12).about(5), 0);
        due("about(2) of 20 lonely ones", desk(20).about(2), 20);
        due("about(3) of 20 lonely ones", desk(20).about(3), 20);
    }

    private static void lay() {
        promise = 7;
        PlaneDesk desk = house();
        due("lay()", desk.lay(), 4);
        dueTurn(desk, 0, 1, 2, 3);
        dueTurn(desk, 1, 0, 4, 2);
        dueTurn(desk, 2, 0, 1, 3);
        dueTurn(desk, 3, 0, 2, 4);
        dueTurn(desk, 4, 1, 3);
        PlaneDesk full = fiveLessOne();
        due("lay()", full.lay(), 6);
        dueTurn(full, 0, 1, 4, 2, 3);
        dueTurn(full, 1, 0, 3, 2, 4);
        dueTurn(full, 2, 0, 4, 1, 3);
        dueTurn(full, 3, 0, 2, 1);
        dueTurn(full, 4, 0, 1, 2);
        full.swap(0, 0, 3);
        due("turn(0, 0)", full.turn(0, 0), 3);
        due("lay()", full.lay(), 6);
        dueTurn(full, 0, 1, 4, 2, 3);
        PlaneDesk eight = octahedron();
        due("lay()", eight.lay(), 8);
        dueTurn(eight, 0, 1, 2, 4, 3);
        dueTurn(eight, 1, 0, 3, 5, 2);
        dueTurn(eight, 2, 0, 1, 5, 4);
        dueTurn(eight, 3, 0, 4, 5, 1);
        dueTurn(eight, 4, 0, 2, 5, 3);
        dueTurn(eight, 5, 1, 3, 4, 2);
        PlaneDesk five = allWithAll(7, 5);
        due("lay()", five.lay(), NONE);
        due("about(5)", five.about(5), 0);
        due("may(5, 6)", five.may(5, 6), NONE);
        due("lay()", five.lay(), NONE);
        due("knot(0)", five.knot(0), 10);
        due("faces()", five.faces(), NONE);
        due("lay() of lonely ones", desk(3).lay(), 0);
        due("lay() of two edges", desk(4, 0, 1, 2, 3).lay(), 2);
    }

    private static void turn() {
        promise = 8;
        // Around 2: the bridge first, then the triangle of the lower number, each from the least on.
        PlaneDesk desk = desk(6, 2, 5, 3, 2, 0, 1, 3, 4, 2, 1, 4, 2, 0, 2);
        due("turn(2, 0)", desk.turn(2, 0), NONE);
        desk.lay();
        dueTurn(desk, 2, 5, 3, 4, 0, 1);
        dueTurn(desk, 5, 2);
        dueTurn(desk, 0, 1, 2);
        due("turn(2, -1)", desk.turn(2, -1), NONE);
        due("turn(6, 0)", desk.turn(6, 0), NONE);
        due("turn(-1, 0)", desk.turn(-1, 0), NONE);
        due("turn(2, 20)", desk.turn(2, 20), NONE);
        desk.swap(2, 0, 4);
        dueTurn(desk, 2, 1, 3, 4, 0, 5);
        desk.graph(20);
        desk.lay();
        due("turn(2, 0)", desk.turn(2, 0), NONE);
    }

    private static void swap() {
        promise = 9;
        PlaneDesk desk = desk(4, 0, 1, 0, 2, 0, 3);
        due("swap(0, 0, 1) without a turn", desk.swap(0, 0, 1), false);
        desk.lay();
        due("swap(0, 0, 3)", desk.swap(0, 0, 3), false);
        due("swap(0, 3, 0)", desk.swap(0, 3, 0), false);
        due("swap(0, -1, 0)", desk.swap(0, -1, 0), false);
        due("swap(0, 0, -1)", desk.swap(0, 0, -1), false);
        due("swap(1, 0, 1)", desk.swap(1, 0, 1), false);
        due("swap(4, 0, 0)", desk.swap(4, 0, 0), false);
        due("swap(-1, 0, 0)", desk.swap(-1, 0, 0), false);
        dueTurn(desk, 0, 1, 2, 3);
        due("swap(1, 0, 0)", desk.swap(1, 0, 0), true);
        due("swap(0, 2, 2)", desk.swap(0, 2, 2), true);
        dueTurn(desk, 0, 1, 2, 3);
        due("swap(0, 2, 0)", desk.swap(0, 2, 0), true);
        dueTurn(desk, 0, 3, 2, 1);
        due("about(1)", desk.about(1), 3);
        PlaneDesk busy = busy();
        due("swap(0, 0, 1)", busy.swap(0, 0, 1), true);
        due("at(1, 0) behind swap", busy.at(1, 0), 6);
        due("colourOf(4) behind swap", busy.colourOf(4), 0);
    }

    private static void faces() {
        promise = 10;
        PlaneDesk desk = house();
        due("faces()", desk.faces(), NONE);
        desk.lay();
        due("faces()", desk.faces(), 4);
        desk.swap(0, 1, 2);
        due("faces()", desk.faces(), 2);
        desk.swap(0, 1, 2);
        due("faces()", desk.faces(), 4);
        desk.cut(0);
        due("faces()", desk.faces(), NONE);
        PlaneDesk five = allWithAll(5, 5);
        five.lay();
        due("faces()", five.faces(), NONE);
        PlaneDesk lonely = desk(6);
        lonely.lay();
        due("faces()", lonely.faces(), 0);
    }

    private static void face() {
        promise = 11;
        PlaneDesk desk = house();
        due("face(0, 0)", desk.face(0, 0), NONE);
        desk.lay();
        dueFace(desk, 0, 0, 1, 4, 3);
        dueFace(desk, 1, 1, 0, 2);
        dueFace(desk, 2, 1, 2, 3, 4);
        dueFace(desk, 3, 3, 2, 0);
        due("face(4, 0)", desk.face(4, 0), NONE);
        due("face(-1, 0)", desk.face(-1, 0), NONE);
        due("face(0, -1)", desk.face(0, -1), NONE);
        // Around 0 now 1, 3, 2: one face goes by darts 0 10 4 7 0 .. the other has the rest.
        desk.swap(0, 1, 2);
        dueFace(desk, 0, 0, 1, 4, 3, 0, 2, 1, 0, 3, 2);
        dueFace(desk, 1, 1, 2, 3, 4);
        due("face(2, 0)", desk.face(2, 0), NONE);
        PlaneDesk path = desk(3, 2, 1, 1, 0);
        path.lay();
        dueFace(path, 0, 1, 2, 1, 0);
    }

    private static void genus() {
        promise = 12;
        PlaneDesk desk = house();
        due("genus()", desk.genus(), NONE);
        desk.lay();
        due("genus()", desk.genus(), 0);
        desk.swap(0, 1, 2);
        due("genus()", desk.genus(), 1);
        // Two of four with each other, and lonely ones.
        PlaneDesk two = desk(10, 0, 1, 0, 2, 0, 3, 1, 2, 1, 3, 2, 3, 4, 5, 4, 6, 4, 7, 5, 6, 5, 7, 6, 7);
        due("lay()", two.lay(), 8);
        due("genus()", two.genus(), 0);
        two.swap(0, 0, 1);
        due("genus()", two.genus(), 1);
        two.swap(4, 0, 1);
        due("genus()", two.genus(), 2);
        two.join(0, 4);
        due("genus()", two.genus(), NONE);
        PlaneDesk five = allWithAll(5, 5);
        five.lay();
        due("genus()", five.genus(), NONE);
    }

    private static void knot() {
        promise = 13;
        // Five with each other, one edge by way of 5, and edges beside that; edge 0 is beside it.
        PlaneDesk desk = desk(8, 6, 7, 0, 1, 0, 2, 0, 3, 0, 4, 1, 2, 1, 3, 1, 4, 2, 3, 2, 4, 3, 5, 5, 4, 6, 0);
        due("knot(0)", desk.knot(0), NONE);
        due("lay()", desk.lay(), NONE);
        dueKnot(desk, 5, 1, 11, 0, 5);
        for (int what : new int[] {-1, 3, 99, 111, 199, 205, 300, Integer.MIN_VALUE, Integer.MAX_VALUE}) {
            due("knot(" + what + ")", desk.knot(what), NONE);
        }
        // Six with each other: those of 0 go first, and five with each other are left.
        PlaneDesk six = allWithAll(6, 6);
        due("lay()", six.lay(), NONE);
        dueKnot(six, 5, 5, 10, 1, 5);
        // Four with three: again those of 0 go first.
        PlaneDesk seven = desk(7, 0, 3, 0, 4, 0, 5, 1, 3, 1, 4, 1, 5, 2, 3, 2, 4, 2, 5, 6, 3, 6, 4, 6, 5);
        due("lay()", seven.lay(), NONE);
        dueKnot(seven, 3, 3, 9, 1, 6);
        // Three with three, one edge by way of 6, and an edge beside that.
        PlaneDesk bent = desk(7, 0, 1, 0, 3, 0, 4, 0, 5, 1, 3, 1, 4, 1, 5, 2, 3, 2, 4, 2, 6, 6, 5);
        due("lay()", bent.lay(), NONE);
        dueKnot(bent, 3, 1, 10, 0, 6);
        PlaneDesk house = house();
        house.lay();
        due("knot(0)", house.knot(0), NONE);
        six.join(0, 1);
        due("knot(0) behind a join that failed", six.knot(0), 10);
        six.cut(0);
        due("knot(0)", six.knot(0), NONE);
    }

    /** A knot of edges and branches that follow one another by number. */
    private static void dueKnot(PlaneDesk desk, int sort, int edge, int edges, int branch, int branches) {
        due("knot(0)", desk.knot(0), edges);
        due("knot(1)", desk.knot(1), sort);
        due("knot(2)", desk.knot(2), branches);
        for (int i = 0; i <= edges; i++) {
            due("knot(100 + " + i + ")", desk.knot(100 + i), i < edges ? edge + i : NONE);
        }
        for (int i = 0; i <= branches; i++) {
            due("knot(200 + " + i + ")", desk.knot(200 + i), i < branches ? branch + i : NONE);
        }
    }

    private static void may() {
        promise = 14;
        PlaneDesk desk = fiveLessOne();
        due("may(3, 4)", desk.may(3, 4), 0);
        due("may(4, 3)", desk.may(4, 3), 0);
        due("may(0, 1)", desk.may(0, 1), NONE);
        due("may(1, 0)", desk.may(1, 0), NONE);
        due("may(2, 2)", desk.may(2, 2), NONE);
        due("may(0, 5)", desk.may(0, 5), NONE);
        due("may(5, 0)", desk.may(5, 0), NONE);
        due("may(-1, 0)", desk.may(-1, 0), NONE);
        desk.cut(0);
        due("may(3, 4)", desk.may(3, 4), 1);
        due("may(0, 1)", desk.may(0, 1), 1);
        due("about(1)", desk.about(1), 8);
        PlaneDesk busy = busy();
        busy.may(3, 4);
        dueBusy("may(3, 4)", busy, true);
        busy.swap(0, 0, 1);
        busy.may(3, 4);
        due("turn(0, 0)", busy.turn(0, 0), 4);
        due("genus()", busy.genus(), 1);
        PlaneDesk five = allWithAll(7, 5);
        due("may(5, 6)", five.may(5, 6), NONE);
        due("knot(0)", five.knot(0), NONE);
        five.lay();
        due("may(5, 6)", five.may(5, 6), NONE);
        due("knot(0)", five.knot(0), 10);
        due("may(10, 11) at 60 edges", allWithAll(12, 12).may(10, 11), NONE);
    }

    private static void fill() {
        promise = 15;
        PlaneDesk desk = desk(6);
        due("fill()", desk.fill(), 12);
        // 0 with all, 1 with all; then 2 with two of the others, and so on in a row.
        int[][] want = {{0, 1}, {0, 2}, {0, 3}, {0, 4}, {0, 5}, {1, 2}, {1, 3}, {1, 4}, {1, 5}, {2, 3}, {2, 4}, {3, 5}};
        for (int e = 0; e < want.length; e++) {
            due("edge(" + e + ", 0)", desk.edge(e, 0), want[e][0]);
            due("edge(" + e + ", 1)", desk.edge(e, 1), want[e][1]);
        }
        due("fill()", desk.fill(), 0);
        PlaneDesk busy = busy();
        busy.swap(0, 0, 1);
        due("fill()", busy.fill(), 0);
        due("turn(0, 0)", busy.turn(0, 0), 4);
        due("at(1, 0)", busy.at(1, 0), 6);
        due("colourOf(4)", busy.colourOf(4), 0);
        busy.cut(8);
        busy.lay();
        busy.colour();
        due("fill()", busy.fill(), 1);
        dueBusy("fill()", busy, false);
        due("edge(8, 0)", busy.edge(8, 0), 2);
        due("edge(8, 1)", busy.edge(8, 1), 4);
        PlaneDesk five = allWithAll(7, 5);
        five.colour();
        due("fill()", five.fill(), NONE);
        due("about(1)", five.about(1), 10);
        due("knot(0)", five.knot(0), NONE);
        due("colourOf(5)", five.colourOf(5), 0);
        five.lay();
        due("fill()", five.fill(), NONE);
        due("knot(0)", five.knot(0), 10);
        due("fill() of two", desk(2).fill(), 1);
        due("fill() of one", desk(1).fill(), 0);
        due("fill() of twenty", desk(20).fill(), 54);
    }

    private static void draw() {
        promise = 16;
        PlaneDesk desk = fiveLessOne();
        desk.lay();
        desk.swap(0, 0, 3);
        desk.swap(2, 1, 2);
        due("draw()", desk.draw(), true);
        dueTurn(desk, 0, 1, 4, 2, 3);
        dueTurn(desk, 2, 0, 4, 1, 3);
        due("faces()", desk.faces(), 6);
        due("genus()", desk.genus(), 0);
        due("at(1, 0)", desk.at(1, 0), 6);
        PlaneDesk open = house();
        open.lay();
        open.swap(0, 1, 2);
        due("draw()", open.draw(), false);
        due("turn(0, 1)", open.turn(0, 1), 3);
        due("at(0, 0)", open.at(0, 0), NONE);
        PlaneDesk unlaid = house();
        due("draw()", unlaid.draw(), false);
        due("turn(0, 0)", unlaid.turn(0, 0), NONE);
        // Six with 12 edges, but five with each other are among them.
        PlaneDesk knotted = allWithAll(6, 5);
        knotted.join(5, 0);
        knotted.join(5, 1);
        due("about(1)", knotted.about(1), 12);
        due("draw()", knotted.draw(), false);
        due("knot(0)", knotted.knot(0), NONE);
        due("draw() of two", desk(2, 0, 1).draw(), false);
        due("draw() of two without an edge", desk(2).draw(), false);
        due("draw() of three", desk(3, 0, 1, 1, 2, 2, 0).draw(), true);
        due("draw() of three with two edges", desk(3, 0, 1, 1, 2).draw(), false);
    }

    private static void at() {
        promise = 17;
        PlaneDesk desk = fiveLessOne();
        due("at(0, 0)", desk.at(0, 0), NONE);
        desk.lay();
        due("at(0, 0)", desk.at(0, 0), NONE);
        desk.draw();
        dueAt(desk, 0, 0, 0, 0);
        dueAt(desk, 1, 6, 0, 1);
        dueAt(desk, 2, 3, 2, 3);
        dueAt(desk, 3, 3, 3, 4);
        dueAt(desk, 4, 3, 1, 2);
        due("at(0, 3)", desk.at(0, 3), NONE);
        due("at(0, -1)", desk.at(0, -1), NONE);
        due("at(5, 0)", desk.at(5, 0), NONE);
        due("at(-1, 0)", desk.at(-1, 0), NONE);
        due("lay()", desk.lay(), 6);
        dueAt(desk, 3, 3, 3, 4);
        PlaneDesk eight = octahedron();
        eight.draw();
        dueAt(eight, 0, 0, 0, 0);
        dueAt(eight, 1, 8, 0, 1);
        dueAt(eight, 2, 3, 1, 2);
        dueAt(eight, 3, 4, 4, 5);
        dueAt(eight, 4, 4, 3, 4);
        dueAt(eight, 5, 5, 2, 3);
        // Edge 0 goes from 1 to 2 here, so 1 is the first and 2 the second.
        PlaneDesk three = desk(3, 2, 1, 0, 1, 2, 0);
        three.draw();
        dueAt(three, 1, 0, 0, 0);
        dueAt(three, 2, 2, 0, 1);
        dueAt(three, 0, 1, 1, 2);
        three.cut(0);
        due("at(1, 0)", three.at(1, 0), NONE);
    }

    private static void colour() {
        promise = 18;
        PlaneDesk ring = desk(5, 0, 1, 1, 2, 2, 3, 3, 4, 4, 0);
        due("colour()", ring.colour(), 3);
        due("colour()", ring.colour(), 3);
        due("colour() of a path", desk(4, 0, 1, 1, 2, 2, 3).colour(), 2);
        due("colour() of lonely ones", desk(7).colour(), 1);
        due("colour() of none", desk(0).colour(), 0);
        due("colour() of ten with each other", allWithAll(10, 10).colour(), 10);
        PlaneDesk busy = busy();
        busy.swap(0, 0, 1);
        due("colour()", busy.colour(), 4);
        due("turn(0, 0)", busy.turn(0, 0), 4);
        due("at(1, 0)", busy.at(1, 0), 6);
        PlaneDesk five = allWithAll(5, 5);
        five.lay();
        due("colour()", five.colour(), 5);
        due("knot(0)", five.knot(0), 10);
    }

    private static void colourOf() {
        promise = 19;
        PlaneDesk ring = desk(5, 0, 1, 1, 2, 2, 3, 3, 4, 4, 0);
        due("colourOf(0)", ring.colourOf(0), NONE);
        ring.colour();
        int[] want = {2, 1, 0, 1, 0};
        for (int v = 0; v < 5; v++) {
            due("colourOf(" + v + ")", ring.colourOf(v), want[v]);
        }
        due("colourOf(5)", ring.colourOf(5), NONE);
        due("colourOf(-1)", ring.colourOf(-1), NONE);
        ring.lay();
        due("colourOf(0)", ring.colourOf(0), 2);
        ring.join(0, 1);
        due("colourOf(0)", ring.colourOf(0), 2);
        ring.join(0, 2);
        due("colourOf(0)", ring.colourOf(0), NONE);
        PlaneDesk path = desk(4, 0, 1, 1, 2, 2, 3);
        path.colour();
        int[] two = {1, 0, 1, 0};
        for (int v = 0; v < 4; v++) {
            due("colourOf(" + v + ")", path.colourOf(v), two[v]);
        }
    }

    /** In every state every call answers for every argument, and the wrong ones change nothing. */
    private static void wrongInputs() {
        promise = 0;
        PlaneDesk knotted = allWithAll(5, 5);
        knotted.lay();
        PlaneDesk[] desks = {new PlaneDesk(), desk(3), busy(), knotted, allWithAll(12, 12)};
        for (PlaneDesk desk : desks) {
            int edges = desk.about(1);
            for (int w : WRONG) {
                if (w < 0 || w >= 20) {
                    due("graph(" + w + ")", w != 20 && desk.graph(w), false);
                    due("join(" + w + ", 0)", desk.join(w, 0), NONE);
                    due("join(0, " + w + ")", desk.join(0, w), NONE);
                    due("join(" + w + ", " + w + ")", desk.join(w, w), NONE);
                    due("turn(" + w + ", 0)", desk.turn(w, 0), NONE);
                    due("turn(0, " + w + ")", desk.turn(0, w), NONE);
                    due("swap(" + w + ", 0, 0)", desk.swap(w, 0, 0), false);
                    due("swap(0, " + w + ", 0)", desk.swap(0, w, 0), false);
                    due("swap(0, 0, " + w + ")", desk.swap(0, 0, w), false);
                    due("may(" + w + ", 0)", desk.may(w, 0), NONE);
                    due("may(0, " + w + ")", desk.may(0, w), NONE);
                    due("at(" + w + ", 0)", desk.at(w, 0), NONE);
                    due("at(0, " + w + ")", desk.at(0, w), NONE);
                    due("colourOf(" + w + ")", desk.colourOf(w), NONE);
                    due("about(" + w + ")", desk.about(w), NONE);
                    due("edge(0, " + w + ")", desk.edge(0, w), NONE);
                    due("face(0, " + w + ")", desk.face(0, w), NONE);
                    due("face(" + w + ", 0)", desk.face(w, 0), NONE);
                    due("knot(" + w + ")", desk.knot(w), NONE);
                }
                if (w < 0 || w >= 60) {
                    due("cut(" + w + ")", desk.cut(w), false);
                    due("edge(" + w + ", 0)", desk.edge(w, 0), NONE);
                }
            }
            due("about(1)", desk.about(1), edges);
        }
        dueBusy("wrong calls", desks[2], true);
        due("knot(0) behind wrong calls", knotted.knot(0), 10);
    }
}
