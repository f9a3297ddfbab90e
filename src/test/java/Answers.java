import java.util.ArrayList;
import java.util.List;

/** What one test found: the calls whose answers are not the ones that are due. */
final class Answers {
    private static final int NONE = PlaneDesk.NONE;

    private final List<String> wrong = new ArrayList<>();
    private int looked = 0;

    List<String> wrong() {
        return wrong;
    }

    int looked() {
        return looked;
    }

    void fail(String what) {
        wrong.add(what);
    }

    void due(String call, int got, int want) {
        looked++;
        if (got != want) {
            fail(call + " answered " + got + ", due is " + want);
        }
    }

    void due(String call, boolean got, boolean want) {
        looked++;
        if (got != want) {
            fail(call + " answered " + got + ", due is " + want);
        }
    }

    /** These neighbours around v, and none behind them. */
    void dueTurn(PlaneDesk desk, int v, int... neighbours) {
        for (int i = 0; i < neighbours.length; i++) {
            due("turn(" + v + ", " + i + ")", desk.turn(v, i), neighbours[i]);
        }
        due("turn(" + v + ", " + neighbours.length + ")", desk.turn(v, neighbours.length), NONE);
    }

    /** Darts that begin at these vertices, and none behind them. */
    void dueFace(PlaneDesk desk, int f, int... begins) {
        for (int i = 0; i < begins.length; i++) {
            due("face(" + f + ", " + i + ")", desk.face(f, i), begins[i]);
        }
        due("face(" + f + ", " + begins.length + ")", desk.face(f, begins.length), NONE);
    }

    void dueEdge(PlaneDesk desk, int e, int lower, int higher) {
        due("edge(" + e + ", 0)", desk.edge(e, 0), lower);
        due("edge(" + e + ", 1)", desk.edge(e, 1), higher);
    }

    void dueAt(PlaneDesk desk, int v, int x, int y, int place) {
        due("at(" + v + ", 0)", desk.at(v, 0), x);
        due("at(" + v + ", 1)", desk.at(v, 1), y);
        due("at(" + v + ", 2)", desk.at(v, 2), place);
    }

    void dueColours(PlaneDesk desk, int... colours) {
        for (int v = 0; v < colours.length; v++) {
            due("colourOf(" + v + ")", desk.colourOf(v), colours[v]);
        }
    }

    /** What there is of a laid out, drawn and coloured tetrahedron (Graphs.tetrahedron), or that it is gone. */
    void dueTetrahedron(PlaneDesk desk, boolean there) {
        dueLaidOut(desk, there);
        dueDrawn(desk, there);
        due("colourOf(0)", desk.colourOf(0), there ? 3 : NONE);
        due("colourOf(3)", desk.colourOf(3), there ? 0 : NONE);
    }

    void dueLaidOut(PlaneDesk desk, boolean there) {
        due("turn(1, 1)", desk.turn(1, 1), there ? 3 : NONE);
        due("faces()", desk.faces(), there ? 4 : NONE);
        due("face(0, 2)", desk.face(0, 2), there ? 3 : NONE);
        due("genus()", desk.genus(), there ? 0 : NONE);
    }

    void dueDrawn(PlaneDesk desk, boolean there) {
        due("at(3, 0)", desk.at(3, 0), there ? 2 : NONE);
        due("at(3, 1)", desk.at(3, 1), there ? 2 : NONE);
        due("at(3, 2)", desk.at(3, 2), there ? 3 : NONE);
    }
}
