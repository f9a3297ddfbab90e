/** The boundary cases of 'What it is', of Terms I and of promises 1 to 6: graphs, their edges, what is about them. */
final class GraphBoundaries {
    private static final int NONE = PlaneDesk.NONE;
    private static final int LEAST = Integer.MIN_VALUE;
    private static final int GREATEST = Integer.MAX_VALUE;

    private static final String NO_JOIN = "NONE: no such ones, the same, they are joined, or there are 60.";
    private static final String ALL_GONE = "what was laid out, knotted, drawn, coloured is gone";
    private static final String SO_BEHIND = "(so behind each act that changes EDGES)";
    private static final String ABOUT = "0 VERTICES, 1 EDGES, 2 COMPONENTS, 3 lonely VERTICES, 4 BLOCKS, "
            + "5 whether the graph can be laid out (1, 0).";

    private GraphBoundaries() {
    }

    // ---- What it is

    @Says(promise = 1, sentence = "An object is used for at most 512 calls after it has been made",
            edge = "the last call")
    static void call512IsAnswered(Answers answers) {
        PlaneDesk desk = new PlaneDesk();
        answers.due("graph(6), call 1", desk.graph(6), true);
        answers.due("fill(), call 2", desk.fill(), 12);
        for (int call = 3; call < 511; call += 2) {
            answers.due("cut(11), call " + call, desk.cut(11), true);
            answers.due("fill(), call " + (call + 1), desk.fill(), 1);
        }
        answers.due("draw(), call 511", desk.draw(), true);
        answers.due("at(1, 0), call 512", desk.at(1, 0), 8);
    }

    // ---- Terms I

    @Says(promise = 3, sentence = "VERTICES 0 .. V - 1 (20 at most)", edge = "the first and the last vertex")
    static void verticesGoFrom0ToVLess1(Answers answers) {
        PlaneDesk desk = Graphs.desk(7);
        answers.due("join(0, 6)", desk.join(0, 6), 0);
        answers.due("join(6, 7)", desk.join(6, 7), NONE);
        answers.due("join(-1, 0)", desk.join(-1, 0), NONE);
        PlaneDesk most = Graphs.desk(20);
        answers.due("join(0, 19)", most.join(0, 19), 0);
        answers.due("join(19, 20)", most.join(19, 20), NONE);
    }

    @Says(promise = 5, sentence = "EDGES 0 .. E - 1 (60 at most)", edge = "the first and the last edge")
    static void edgesGoFrom0ToELess1(Answers answers) {
        PlaneDesk desk = Graphs.sixtyEdges();
        answers.due("about(1)", desk.about(1), 60);
        answers.dueEdge(desk, 0, 0, 1);
        answers.dueEdge(desk, 59, 7, 11);
        answers.dueEdge(desk, 60, NONE, NONE);
        answers.dueEdge(desk, -1, NONE, NONE);
    }

    @Says(promise = 5, sentence = "each of a lower and a higher end", edge = "told the other way round")
    static void endsAreLowerAndHigher(Answers answers) {
        PlaneDesk desk = Graphs.desk(20, 19, 0, 0, 18);
        answers.dueEdge(desk, 0, 0, 19);
        answers.dueEdge(desk, 1, 0, 18);
    }

    @Says(promise = 3, sentence = "no two of like ends", edge = "a refused call")
    static void noTwoEdgesHaveLikeEnds(Answers answers) {
        PlaneDesk desk = Graphs.desk(3, 2, 1);
        answers.due("join(1, 2)", desk.join(1, 2), NONE);
        answers.due("join(2, 1)", desk.join(2, 1), NONE);
        answers.due("about(1)", desk.about(1), 1);
        desk.cut(0);
        answers.due("join(1, 2) behind cut(0)", desk.join(1, 2), 0);
    }

    @Says(promise = 6, sentence = "COMPONENTS: VERTICES that hang together by EDGES", edge = "the least and the most")
    static void componentsHangTogetherByEdges(Answers answers) {
        answers.due("about(2) of 20 lonely ones", Graphs.desk(20).about(2), 20);
        answers.due("about(2) of a ring of 20", Graphs.ring(20).about(2), 1);
        PlaneDesk path = Graphs.desk(4, 3, 2, 1, 0);
        answers.due("about(2) of two edges", path.about(2), 2);
        path.join(0, 3);
        answers.due("about(2) of a path", path.about(2), 1);
        path.cut(2);
        answers.due("about(2) of two edges again", path.about(2), 2);
    }

    @Says(promise = 6, sentence = "a lonely one has no EDGE", edge = "empty")
    static void lonelyOnesHaveNoEdge(Answers answers) {
        PlaneDesk desk = Graphs.desk(4, 1, 2);
        answers.due("about(3)", desk.about(3), 2);
        desk.join(0, 1);
        answers.due("about(3) behind a join", desk.about(3), 1);
        desk.cut(0);
        answers.due("about(3) behind a cut", desk.about(3), 2);
        answers.due("about(2)", desk.about(2), 3);
    }

    @Says(promise = 5, sentence = "two EDGES are of one BLOCK if they are the same", edge = "a single edge")
    static void anEdgeOnNoRingIsABlock(Answers answers) {
        PlaneDesk desk = Graphs.desk(4, 0, 1, 1, 2, 2, 3);
        answers.due("about(4)", desk.about(4), 3);
        for (int e = 0; e < 3; e++) {
            answers.due("edge(" + e + ", 2)", desk.edge(e, 2), e);
        }
        desk.join(3, 0);
        answers.due("about(4) of a ring", desk.about(4), 1);
        answers.due("edge(3, 2) of a ring", desk.edge(3, 2), 0);
    }

    @Says(promise = 5, sentence = "or some ring of EDGES (no VERTEX twice) has both",
            edge = "a vertex that is met twice")
    static void ringsWithAVertexTwiceAreNoBlock(Answers answers) {
        PlaneDesk desk = Graphs.desk(5, 0, 1, 1, 2, 0, 2, 2, 3, 3, 4, 2, 4);
        answers.due("about(4)", desk.about(4), 2);
        answers.due("edge(2, 2)", desk.edge(2, 2), 0);
        answers.due("edge(3, 2)", desk.edge(3, 2), 1);
        desk.join(0, 4);
        answers.due("about(4) behind join(0, 4)", desk.about(4), 1);
        answers.due("edge(3, 2) behind join(0, 4)", desk.edge(3, 2), 0);
    }

    @Says(promise = 5, sentence = "BLOCKS are numbered by their least EDGES.", edge = "the first and the last block")
    static void blocksAreNumberedByLeastEdges(Answers answers) {
        // A triangle 5, 6, 7 whose edges are 1, 3 and 4; single edges 0 and 2.
        PlaneDesk desk = Graphs.desk(8, 2, 3, 6, 7, 0, 1, 5, 7, 5, 6);
        int[] blocks = {0, 1, 2, 1, 1};
        for (int e = 0; e < blocks.length; e++) {
            answers.due("edge(" + e + ", 2)", desk.edge(e, 2), blocks[e]);
        }
        desk.cut(0);
        answers.due("edge(0, 2) behind cut(0)", desk.edge(0, 2), 0);
        answers.due("edge(1, 2) behind cut(0)", desk.edge(1, 2), 1);
    }

    @Says(promise = 11, sentence = "A TURN: around each VERTEX its neighbours in an order, in a ring.",
            edge = "a wrap-around")
    static void theFirstFollowsTheLastAroundAVertex(Answers answers) {
        // Behind 3, the last around 0, comes 1 again: else dart 3 to 0 would lead nowhere.
        PlaneDesk desk = Graphs.star(4);
        answers.due("lay()", desk.lay(), 1);
        answers.dueFace(desk, 0, 0, 1, 0, 2, 0, 3);
    }

    @Says(promise = 11, sentence = "2 e from the lower, 2 e + 1 from the higher end of EDGE e", edge = "a single edge")
    static void dartsAreNumberedFromTheLowerEnd(Answers answers) {
        PlaneDesk desk = Graphs.desk(4, 3, 1);
        answers.due("lay()", desk.lay(), 1);
        answers.dueFace(desk, 0, 1, 3);
    }

    @Says(promise = 11, sentence = "the next one is from y to the neighbour that follows x around y",
            edge = "a single neighbour")
    static void aDartTurnsBackAtASingleNeighbour(Answers answers) {
        PlaneDesk desk = Graphs.desk(3, 1, 2, 0, 1);
        answers.due("lay()", desk.lay(), 1);
        answers.dueFace(desk, 0, 1, 2, 1, 0);
    }

    @Says(promise = 10, sentence = "FACES are the rings of DARTS that come so.", edge = "a wrap-around")
    static void facesAreRingsOfDarts(Answers answers) {
        PlaneDesk desk = Graphs.ring(20);
        answers.due("lay()", desk.lay(), 2);
        answers.due("face(0, 19)", desk.face(0, 19), 19);
        answers.due("face(0, 20)", desk.face(0, 20), NONE);
        answers.due("face(1, 19)", desk.face(1, 19), 2);
        answers.due("face(1, 20)", desk.face(1, 20), NONE);
    }

    @Says(promise = 11, sentence = "They are numbered by their least DARTS, and begin with them.",
            edge = "the first of each")
    static void facesBeginWithTheirLeastDarts(Answers answers) {
        // Two triangles by themselves; darts 0, 1, 6 and 7 are the least ones.
        PlaneDesk desk = Graphs.desk(6, 1, 2, 0, 1, 0, 2, 4, 5, 3, 4, 3, 5);
        answers.due("lay()", desk.lay(), 4);
        answers.dueFace(desk, 0, 1, 2, 0);
        answers.dueFace(desk, 1, 2, 1, 0);
        answers.dueFace(desk, 2, 4, 5, 3);
        answers.dueFace(desk, 3, 5, 4, 3);
    }

    @Says(promise = 12, sentence = "half of what twice the COMPONENTS, less the lonely VERTICES, less VERTICES, "
            + "and EDGES, less FACES come to.", edge = "empty")
    static void genusOfLonelyOnesIs0(Answers answers) {
        PlaneDesk none = new PlaneDesk();
        none.lay();
        answers.due("genus() of no vertices", none.genus(), 0);
        PlaneDesk lonely = Graphs.desk(20);
        lonely.lay();
        answers.due("genus() of 20 lonely ones", lonely.genus(), 0);
        PlaneDesk mixed = Graphs.desk(7, 0, 1, 2, 3, 3, 4, 2, 4);
        mixed.lay();
        answers.due("genus() of an edge, a ring and lonely ones", mixed.genus(), 0);
    }

    @Says(promise = 1, sentence = "The constants: `NONE = -1`: None.", edge = "the constant")
    static void noneIsMinus1(Answers answers) {
        answers.due("NONE", PlaneDesk.NONE, -1);
        answers.due("faces() of a new object", new PlaneDesk().faces(), -1);
    }

    // ---- Promise 1

    @Says(promise = 1, sentence = "No VERTICES.", edge = "empty")
    static void aNewObjectHasNoVertices(Answers answers) {
        PlaneDesk desk = new PlaneDesk();
        for (int what = 0; what < 5; what++) {
            answers.due("about(" + what + ")", desk.about(what), 0);
        }
        answers.due("join(0, 1)", desk.join(0, 1), NONE);
        answers.due("cut(0)", desk.cut(0), false);
        answers.due("may(0, 1)", desk.may(0, 1), NONE);
        answers.due("fill()", desk.fill(), 0);
        answers.due("lay()", desk.lay(), 0);
        answers.due("turn(0, 0)", desk.turn(0, 0), NONE);
        answers.due("draw()", desk.draw(), false);
        answers.due("colour()", desk.colour(), 0);
        answers.due("colourOf(0)", desk.colourOf(0), NONE);
    }

    @Says(promise = 1, sentence = "No VERTICES.", edge = "nothing laid out, knotted, drawn, coloured")
    static void aNewObjectHasNothingElse(Answers answers) {
        PlaneDesk desk = new PlaneDesk();
        answers.due("faces()", desk.faces(), NONE);
        answers.due("face(0, 0)", desk.face(0, 0), NONE);
        answers.due("genus()", desk.genus(), NONE);
        answers.due("swap(0, 0, 0)", desk.swap(0, 0, 0), false);
        answers.due("knot(0)", desk.knot(0), NONE);
        answers.due("at(0, 0)", desk.at(0, 0), NONE);
        answers.due("colourOf(0)", desk.colourOf(0), NONE);
    }

    // ---- Promise 2

    @Says(promise = 2, sentence = "A graph of n (0 .. 20) VERTICES without EDGES", edge = "the least n")
    static void graphOf0(Answers answers) {
        PlaneDesk desk = Graphs.ring(5);
        answers.due("graph(0)", desk.graph(0), true);
        answers.due("about(0)", desk.about(0), 0);
        answers.due("about(1)", desk.about(1), 0);
        answers.due("join(0, 1)", desk.join(0, 1), NONE);
    }

    @Says(promise = 2, sentence = "A graph of n (0 .. 20) VERTICES without EDGES", edge = "the greatest n")
    static void graphOf20(Answers answers) {
        PlaneDesk desk = new PlaneDesk();
        answers.due("graph(20)", desk.graph(20), true);
        answers.due("about(0)", desk.about(0), 20);
        answers.due("join(19, 18)", desk.join(19, 18), 0);
    }

    @Says(promise = 2, sentence = "A graph of n (0 .. 20) VERTICES without EDGES", edge = "empty")
    static void aGraphBeginsWithoutEdges(Answers answers) {
        PlaneDesk desk = Graphs.sixtyEdges();
        answers.due("graph(12)", desk.graph(12), true);
        answers.due("about(1)", desk.about(1), 0);
        answers.due("about(3)", desk.about(3), 12);
        answers.due("about(5)", desk.about(5), 1);
        answers.due("edge(0, 0)", desk.edge(0, 0), NONE);
        answers.due("join(0, 1)", desk.join(0, 1), 0);
    }

    @Says(promise = 2, sentence = ALL_GONE, edge = "laid out")
    static void graphTakesTheTurnAway(Answers answers) {
        PlaneDesk desk = Graphs.tetrahedron();
        desk.graph(4);
        answers.dueLaidOut(desk, false);
        answers.due("swap(0, 0, 0)", desk.swap(0, 0, 0), false);
    }

    @Says(promise = 2, sentence = ALL_GONE, edge = "knotted")
    static void graphTakesTheKnotAway(Answers answers) {
        PlaneDesk desk = Graphs.knotted(5);
        desk.graph(5);
        answers.due("knot(0)", desk.knot(0), NONE);
        answers.due("knot(100)", desk.knot(100), NONE);
    }

    @Says(promise = 2, sentence = ALL_GONE, edge = "drawn")
    static void graphTakesTheDrawingAway(Answers answers) {
        PlaneDesk desk = Graphs.tetrahedron();
        desk.graph(4);
        answers.dueDrawn(desk, false);
    }

    @Says(promise = 2, sentence = ALL_GONE, edge = "coloured, without an edge that could change")
    static void graphTakesTheColoursAway(Answers answers) {
        PlaneDesk desk = Graphs.desk(3);
        desk.colour();
        answers.due("colourOf(2)", desk.colourOf(2), 0);
        desk.graph(3);
        answers.due("colourOf(2) behind graph(3)", desk.colourOf(2), NONE);
    }

    @Says(promise = 2, sentence = SO_BEHIND, edge = "join()")
    static void joinTakesAllAway(Answers answers) {
        PlaneDesk desk = Graphs.desk(5, 0, 1, 0, 2, 0, 3, 1, 2, 1, 3, 2, 3);
        desk.lay();
        desk.colour();
        desk.join(3, 4);
        answers.dueLaidOut(desk, false);
        answers.due("colourOf(0)", desk.colourOf(0), NONE);
        PlaneDesk drawn = Graphs.fiveLessOne();
        drawn.draw();
        drawn.join(3, 4);
        answers.due("at(0, 0)", drawn.at(0, 0), NONE);
        PlaneDesk knotted = Graphs.knotted(6);
        knotted.join(0, 5);
        answers.due("knot(0)", knotted.knot(0), NONE);
    }

    @Says(promise = 2, sentence = SO_BEHIND, edge = "cut()")
    static void cutTakesAllAway(Answers answers) {
        PlaneDesk desk = Graphs.tetrahedron();
        desk.cut(5);
        answers.dueTetrahedron(desk, false);
        PlaneDesk knotted = Graphs.knotted(5);
        knotted.cut(0);
        answers.due("knot(0)", knotted.knot(0), NONE);
    }

    @Says(promise = 2, sentence = SO_BEHIND, edge = "fill()")
    static void fillTakesAllAway(Answers answers) {
        PlaneDesk desk = Graphs.desk(4, 0, 1, 0, 2, 0, 3, 1, 2, 1, 3);
        desk.lay();
        desk.colour();
        answers.due("fill()", desk.fill(), 1);
        answers.dueTetrahedron(desk, false);
    }

    @Says(promise = 2, sentence = SO_BEHIND, edge = "a fill() that changes no edge")
    static void fillThatBringsNothingTakesNothing(Answers answers) {
        PlaneDesk desk = Graphs.tetrahedron();
        answers.due("fill()", desk.fill(), 0);
        answers.dueTetrahedron(desk, true);
    }

    @Says(promise = 2, sentence = SO_BEHIND, edge = "a refused join() changes no edge")
    static void refusedJoinTakesNothing(Answers answers) {
        PlaneDesk desk = Graphs.tetrahedron();
        answers.due("join(0, 1)", desk.join(0, 1), NONE);
        answers.due("join(0, 4)", desk.join(0, 4), NONE);
        answers.due("join(2, 2)", desk.join(2, 2), NONE);
        answers.dueTetrahedron(desk, true);
        PlaneDesk most = Graphs.sixtyEdges();
        most.lay();
        answers.due("join(10, 11)", most.join(10, 11), NONE);
        answers.due("knot(0) there", most.knot(0) != NONE, true);
    }

    @Says(promise = 2, sentence = SO_BEHIND, edge = "a refused cut() changes no edge")
    static void refusedCutTakesNothing(Answers answers) {
        PlaneDesk desk = Graphs.tetrahedron();
        answers.due("cut(6)", desk.cut(6), false);
        answers.due("cut(-1)", desk.cut(-1), false);
        answers.dueTetrahedron(desk, true);
    }

    @Says(promise = 2, sentence = "False for others.", edge = "too small")
    static void graphOfLessThan0IsRefused(Answers answers) {
        PlaneDesk desk = new PlaneDesk();
        answers.due("graph(-1)", desk.graph(-1), false);
        answers.due("graph(least)", desk.graph(LEAST), false);
    }

    @Says(promise = 2, sentence = "False for others.", edge = "too large")
    static void graphOfMoreThan20IsRefused(Answers answers) {
        PlaneDesk desk = new PlaneDesk();
        answers.due("graph(21)", desk.graph(21), false);
        answers.due("graph(greatest)", desk.graph(GREATEST), false);
    }

    @Says(promise = 2, sentence = "False for others.", edge = "a refused call")
    static void refusedGraphChangesNothing(Answers answers) {
        PlaneDesk desk = Graphs.tetrahedron();
        desk.graph(21);
        desk.graph(-1);
        answers.due("about(0)", desk.about(0), 4);
        answers.due("about(1)", desk.about(1), 6);
        answers.dueTetrahedron(desk, true);
        PlaneDesk knotted = Graphs.knotted(5);
        knotted.graph(21);
        answers.due("knot(0)", knotted.knot(0), 10);
    }

    // ---- Promise 3

    @Says(promise = 3, sentence = "Two VERTICES are joined by an EDGE: its number.",
            edge = "the first and the last number")
    static void joinAnswersFrom0To59(Answers answers) {
        PlaneDesk desk = Graphs.desk(12);
        int next = 0;
        for (int u = 0; u < 8; u++) {
            for (int v = 11; v > u; v--) {
                answers.due("join(" + v + ", " + u + ")", desk.join(v, u), next);
                next++;
            }
        }
        answers.due("about(1)", desk.about(1), 60);
    }

    @Says(promise = 3, sentence = NO_JOIN, edge = "too small")
    static void joinOfLessThan0IsRefused(Answers answers) {
        PlaneDesk desk = Graphs.desk(4);
        answers.due("join(-1, 0)", desk.join(-1, 0), NONE);
        answers.due("join(0, -1)", desk.join(0, -1), NONE);
        answers.due("join(-2, -1)", desk.join(-2, -1), NONE);
        answers.due("join(least, 0)", desk.join(LEAST, 0), NONE);
        answers.due("join(0, least)", desk.join(0, LEAST), NONE);
        answers.due("about(1)", desk.about(1), 0);
    }

    @Says(promise = 3, sentence = NO_JOIN, edge = "too large")
    static void joinOfVIsRefused(Answers answers) {
        PlaneDesk desk = Graphs.desk(4);
        answers.due("join(4, 0)", desk.join(4, 0), NONE);
        answers.due("join(0, 4)", desk.join(0, 4), NONE);
        answers.due("join(4, 5)", desk.join(4, 5), NONE);
        answers.due("join(greatest, 0)", desk.join(GREATEST, 0), NONE);
        answers.due("join(0, greatest)", desk.join(0, GREATEST), NONE);
        answers.due("about(1)", desk.about(1), 0);
    }

    @Says(promise = 3, sentence = NO_JOIN, edge = "the same")
    static void joinOfTheSameIsRefused(Answers answers) {
        PlaneDesk desk = Graphs.desk(20);
        answers.due("join(0, 0)", desk.join(0, 0), NONE);
        answers.due("join(19, 19)", desk.join(19, 19), NONE);
        answers.due("about(1)", desk.about(1), 0);
    }

    @Says(promise = 3, sentence = NO_JOIN, edge = "they are joined")
    static void joinOfJoinedOnesIsRefused(Answers answers) {
        PlaneDesk desk = Graphs.desk(3, 0, 2);
        answers.due("join(0, 2)", desk.join(0, 2), NONE);
        answers.due("join(2, 0)", desk.join(2, 0), NONE);
        answers.due("about(1)", desk.about(1), 1);
    }

    @Says(promise = 3, sentence = NO_JOIN, edge = "full")
    static void joinAt60IsRefused(Answers answers) {
        PlaneDesk desk = Graphs.sixtyEdges();
        answers.due("join(10, 11)", desk.join(10, 11), NONE);
        answers.due("about(1)", desk.about(1), 60);
        desk.cut(30);
        answers.due("join(10, 11) at 59", desk.join(10, 11), 59);
        answers.due("join(8, 9) at 60", desk.join(8, 9), NONE);
    }

    // ---- Promise 4

    @Says(promise = 4, sentence = "An EDGE goes away, those behind it come one forward: true.", edge = "the first edge")
    static void cutOfTheFirst(Answers answers) {
        PlaneDesk desk = Graphs.desk(4, 0, 1, 1, 2, 2, 3);
        answers.due("cut(0)", desk.cut(0), true);
        answers.due("about(1)", desk.about(1), 2);
        answers.dueEdge(desk, 0, 1, 2);
        answers.dueEdge(desk, 1, 2, 3);
        answers.dueEdge(desk, 2, NONE, NONE);
        answers.due("join(0, 1)", desk.join(0, 1), 2);
    }

    @Says(promise = 4, sentence = "An EDGE goes away, those behind it come one forward: true.", edge = "the last edge")
    static void cutOfTheLast(Answers answers) {
        PlaneDesk desk = Graphs.desk(4, 0, 1, 1, 2, 2, 3);
        answers.due("cut(2)", desk.cut(2), true);
        answers.due("about(1)", desk.about(1), 2);
        answers.dueEdge(desk, 0, 0, 1);
        answers.dueEdge(desk, 1, 1, 2);
        answers.due("about(3)", desk.about(3), 1);
    }

    @Says(promise = 4, sentence = "An EDGE goes away, those behind it come one forward: true.", edge = "the only edge")
    static void cutOfTheOnlyOne(Answers answers) {
        PlaneDesk desk = Graphs.desk(2, 0, 1);
        answers.due("cut(0)", desk.cut(0), true);
        answers.due("about(1)", desk.about(1), 0);
        answers.dueEdge(desk, 0, NONE, NONE);
        answers.due("cut(0) again", desk.cut(0), false);
    }

    @Says(promise = 4, sentence = "An EDGE goes away, those behind it come one forward: true.", edge = "full")
    static void cutOf60(Answers answers) {
        PlaneDesk desk = Graphs.sixtyEdges();
        answers.due("cut(0)", desk.cut(0), true);
        answers.dueEdge(desk, 58, 7, 11);
        answers.dueEdge(desk, 59, NONE, NONE);
        answers.due("cut(58)", desk.cut(58), true);
        answers.dueEdge(desk, 57, 7, 10);
        answers.due("about(1)", desk.about(1), 58);
    }

    @Says(promise = 4, sentence = "False: there is none such.", edge = "too small")
    static void cutOfLessThan0IsRefused(Answers answers) {
        PlaneDesk desk = Graphs.desk(3, 0, 1, 1, 2);
        answers.due("cut(-1)", desk.cut(-1), false);
        answers.due("cut(least)", desk.cut(LEAST), false);
        answers.due("about(1)", desk.about(1), 2);
    }

    @Says(promise = 4, sentence = "False: there is none such.", edge = "too large")
    static void cutOfEIsRefused(Answers answers) {
        PlaneDesk desk = Graphs.desk(3, 0, 1, 1, 2);
        answers.due("cut(2)", desk.cut(2), false);
        answers.due("cut(greatest)", desk.cut(GREATEST), false);
        answers.due("about(1)", desk.about(1), 2);
        answers.due("cut(60) of 60", Graphs.sixtyEdges().cut(60), false);
    }

    @Says(promise = 4, sentence = "False: there is none such.", edge = "empty")
    static void cutWithoutEdgesIsRefused(Answers answers) {
        answers.due("cut(0) of three lonely ones", Graphs.desk(3).cut(0), false);
        PlaneDesk desk = Graphs.desk(3, 0, 1);
        desk.graph(3);
        answers.due("cut(0) behind graph(3)", desk.cut(0), false);
    }

    // ---- Promise 5

    @Says(promise = 5, sentence = "Of an EDGE: 0 its lower end, 1 its higher one, 2 its BLOCK.",
            edge = "the least and the greatest what")
    static void edgeTellsEndsAndBlock(Answers answers) {
        PlaneDesk desk = Graphs.desk(20, 1, 0, 19, 18);
        answers.dueEdge(desk, 0, 0, 1);
        answers.dueEdge(desk, 1, 18, 19);
        answers.due("edge(0, 2)", desk.edge(0, 2), 0);
        answers.due("edge(1, 2)", desk.edge(1, 2), 1);
    }

    @Says(promise = 5, sentence = "NONE for others.", edge = "an edge too small")
    static void edgeOfLessThan0IsNone(Answers answers) {
        PlaneDesk desk = Graphs.ring(3);
        for (int what = 0; what < 3; what++) {
            answers.due("edge(-1, " + what + ")", desk.edge(-1, what), NONE);
            answers.due("edge(least, " + what + ")", desk.edge(LEAST, what), NONE);
        }
    }

    @Says(promise = 5, sentence = "NONE for others.", edge = "an edge too large")
    static void edgeOfEIsNone(Answers answers) {
        PlaneDesk desk = Graphs.ring(3);
        for (int what = 0; what < 3; what++) {
            answers.due("edge(3, " + what + ")", desk.edge(3, what), NONE);
            answers.due("edge(greatest, " + what + ")", desk.edge(GREATEST, what), NONE);
            answers.due("edge(60, " + what + ")", Graphs.sixtyEdges().edge(60, what), NONE);
        }
    }

    @Says(promise = 5, sentence = "NONE for others.", edge = "a what too small")
    static void edgeWhatOfLessThan0IsNone(Answers answers) {
        PlaneDesk desk = Graphs.ring(3);
        answers.due("edge(0, -1)", desk.edge(0, -1), NONE);
        answers.due("edge(0, least)", desk.edge(0, LEAST), NONE);
    }

    @Says(promise = 5, sentence = "NONE for others.", edge = "a what too large")
    static void edgeWhatOf3IsNone(Answers answers) {
        PlaneDesk desk = Graphs.ring(3);
        answers.due("edge(0, 3)", desk.edge(0, 3), NONE);
        answers.due("edge(0, greatest)", desk.edge(0, GREATEST), NONE);
    }

    @Says(promise = 5, sentence = "NONE for others.", edge = "empty")
    static void edgeWithoutEdgesIsNone(Answers answers) {
        PlaneDesk desk = Graphs.ring(3);
        desk.graph(3);
        for (int what = 0; what < 3; what++) {
            answers.due("edge(0, " + what + ")", desk.edge(0, what), NONE);
        }
    }

    // ---- Promise 6

    @Says(promise = 6, sentence = ABOUT, edge = "empty")
    static void aboutNoVertices(Answers answers) {
        PlaneDesk desk = Graphs.desk(0);
        int[] want = {0, 0, 0, 0, 0, 1};
        for (int what = 0; what < want.length; what++) {
            answers.due("about(" + what + ")", desk.about(what), want[what]);
        }
    }

    @Says(promise = 6, sentence = ABOUT, edge = "full")
    static void aboutTheLargest(Answers answers) {
        // 0 to 11 are full of edges, 12 to 19 are lonely.
        PlaneDesk desk = Graphs.withEachOther(20, 12);
        int[] want = {20, 60, 9, 8, 1, 0};
        for (int what = 0; what < want.length; what++) {
            answers.due("about(" + what + ")", desk.about(what), want[what]);
        }
    }

    @Says(promise = 6, sentence = ABOUT, edge = "the last edge that fits, and the first that doesn't")
    static void aboutWhetherItCanBeLaidOut(Answers answers) {
        PlaneDesk desk = Graphs.fiveLessOne();
        answers.due("about(5)", desk.about(5), 1);
        desk.join(3, 4);
        answers.due("about(5) behind join(3, 4)", desk.about(5), 0);
        desk.cut(0);
        answers.due("about(5) behind cut(0)", desk.about(5), 1);
    }

    @Says(promise = 6, sentence = "NONE for others.", edge = "too small")
    static void aboutLessThan0IsNone(Answers answers) {
        PlaneDesk desk = Graphs.ring(3);
        answers.due("about(-1)", desk.about(-1), NONE);
        answers.due("about(least)", desk.about(LEAST), NONE);
    }

    @Says(promise = 6, sentence = "NONE for others.", edge = "too large")
    static void about6IsNone(Answers answers) {
        PlaneDesk desk = Graphs.ring(3);
        answers.due("about(6)", desk.about(6), NONE);
        answers.due("about(greatest)", desk.about(GREATEST), NONE);
    }
}
