/** Graphs that several tests begin with. */
final class Graphs {
    private Graphs() {
    }

    static PlaneDesk desk(int n, int... ends) {
        PlaneDesk desk = new PlaneDesk();
        desk.graph(n);
        for (int i = 0; i + 1 < ends.length; i += 2) {
            desk.join(ends[i], ends[i + 1]);
        }
        return desk;
    }

    /** The first so many of n vertices with each other, as long as there is room for edges. */
    static PlaneDesk withEachOther(int n, int first) {
        PlaneDesk desk = desk(n);
        for (int u = 0; u < first; u++) {
            for (int v = u + 1; v < first; v++) {
                desk.join(u, v);
            }
        }
        return desk;
    }

    /** 60 edges: twelve with each other but for the six pairs of 8, 9, 10 and 11. */
    static PlaneDesk sixtyEdges() {
        return withEachOther(12, 12);
    }

    /** Four with each other, laid out, drawn and coloured. */
    static PlaneDesk tetrahedron() {
        PlaneDesk desk = withEachOther(4, 4);
        desk.draw();
        desk.colour();
        return desk;
    }

    /** Five with each other but for 3 and 4: it takes no edge more. */
    static PlaneDesk fiveLessOne() {
        PlaneDesk desk = withEachOther(5, 5);
        desk.cut(9);
        return desk;
    }

    /** Five with each other, of n vertices, with its knot. */
    static PlaneDesk knotted(int n) {
        PlaneDesk desk = withEachOther(n, 5);
        desk.lay();
        return desk;
    }

    static PlaneDesk threeWithThree() {
        return desk(6, 0, 3, 0, 4, 0, 5, 1, 3, 1, 4, 1, 5, 2, 3, 2, 4, 2, 5);
    }

    /** Vertex 0 with all others. */
    static PlaneDesk star(int n) {
        PlaneDesk desk = desk(n);
        for (int v = 1; v < n; v++) {
            desk.join(0, v);
        }
        return desk;
    }

    /** 0 with 1, 1 with 2 and so on, the last with 0. */
    static PlaneDesk ring(int n) {
        PlaneDesk desk = desk(n);
        for (int v = 0; v < n; v++) {
            desk.join(v, (v + 1) % n);
        }
        return desk;
    }
}
