/** The boundary cases of Terms III and of promises 15 to 19: graphs filled, drawn, coloured. */
final class DrawingBoundaries {
    private static final int NONE = PlaneDesk.NONE;
    private static final int LEAST = Integer.MIN_VALUE;
    private static final int GREATEST = Integer.MAX_VALUE;

    private static final String FILLED =
            "for each two VERTICES u below v that are not joined, u then v, the lower first: "
            + "an EDGE comes, if the graph can be laid out then.";
    private static final String DRAWN =
            "DRAWN: a graph of three or more VERTICES and 3 V - 6 EDGES that can be laid out";
    private static final String ABC = "FACE 0's first three VERTICES are A, B, C (of three VERTICES these are all).";
    private static final String TAKEN =
            "the least one of the RIM, not A, not B, that has no EDGE to one of the RIM but "
            + "those next to it on the RIM";
    private static final String BETWEEN =
            "it goes from the RIM, and those of its neighbours stand there that come around "
            + "it, going on, between the one ahead of it on the RIM and the one behind it, in that order.";
    private static final String FILL = "The graph is FILLED: how many EDGES came.";
    private static final String NOT_DRAWN = "False, changing nothing: it isn't one that can be.";
    private static final String AT = "Of a VERTEX as it is DRAWN: 0 x, 1 y, 2 its place in THE ORDER (from 0).";
    private static final String COLOUR = "The graph is coloured: how many colours.";

    private DrawingBoundaries() {
    }

    /**
     * Edge 0 is 2 4. Around 4, 1 follows 2, so A, B, C are 2, 4, 1. Around 1 stand 2 3 0 4, in that order: behind 1 the
     * rim is 2 3 0 4. 0 has an edge to 2, so 3 goes, then 0: the order is 2 4 0 3 1.
     */
    private static PlaneDesk five() {
        return Graphs.desk(5, 2, 4, 1, 3, 2, 3, 0, 1, 0, 2, 0, 3, 0, 4, 1, 2, 1, 4);
    }

    /**
     * A, B, C are 3, 5, 1; behind 1 the rim is 3 4 0 2 5, where 4 and 2 are free and 0 is not: 2 goes, then 4, then 0.
     */
    private static PlaneDesk six() {
        return Graphs.desk(6, 3, 5, 0, 4, 3, 4, 2, 5, 0, 1, 0, 2, 0, 3, 0, 5, 1, 2, 1, 3, 1, 4, 1, 5);
    }

    /**
     * Six of 12 edges, five of them with each other: as many as a full graph has, but it can't be laid out. Its knot
     * goes from 0 by 5 to 1, as edge 0 is left out first.
     */
    private static PlaneDesk asManyButKnotted() {
        PlaneDesk desk = Graphs.withEachOther(6, 5);
        desk.join(5, 0);
        desk.join(5, 1);
        return desk;
    }

    // ---- Terms III

    @Says(promise = 15, sentence = FILLED, edge = "from the first pair on")
    static void edgesComeFromTheLowestPairOn(Answers answers) {
        // 0 and 1 with all; 2 with 3 and 4; 3 with 5. 2 5, 3 4 and 4 5 would be too many.
        PlaneDesk desk = Graphs.desk(6);
        answers.due("fill()", desk.fill(), 12);
        int[] ends = {0, 1, 0, 2, 0, 3, 0, 4, 0, 5, 1, 2, 1, 3, 1, 4, 1, 5, 2, 3, 2, 4, 3, 5};
        for (int e = 0; e < 12; e++) {
            answers.dueEdge(desk, e, ends[2 * e], ends[2 * e + 1]);
        }
    }

    @Says(promise = 15, sentence = FILLED, edge = "those that are joined keep their numbers")
    static void edgesComeBehindThoseThatAreThere(Answers answers) {
        PlaneDesk desk = Graphs.desk(4, 2, 3, 1, 3);
        answers.due("fill()", desk.fill(), 4);
        int[] ends = {2, 3, 1, 3, 0, 1, 0, 2, 0, 3, 1, 2};
        for (int e = 0; e < 6; e++) {
            answers.dueEdge(desk, e, ends[2 * e], ends[2 * e + 1]);
        }
    }

    @Says(promise = 15, sentence = FILLED, edge = "an edge that can't be laid out then")
    static void noEdgeComesThatCannotBeLaidOut(Answers answers) {
        PlaneDesk desk = Graphs.desk(5);
        answers.due("fill()", desk.fill(), 9);
        answers.due("may(3, 4)", desk.may(3, 4), 0);
        answers.due("about(5)", desk.about(5), 1);
        PlaneDesk three = Graphs.threeWithThree();
        three.cut(0);
        answers.due("fill() of three with three less one", three.fill(), 4);
        answers.due("may(0, 3)", three.may(0, 3), 0);
    }

    @Says(promise = 16, sentence = DRAWN, edge = "too small: two vertices")
    static void twoVerticesAreNotDrawn(Answers answers) {
        // 3 V - 6 is 0 here.
        answers.due("draw() of two without an edge", Graphs.desk(2).draw(), false);
        answers.due("draw() of two with one", Graphs.desk(2, 0, 1).draw(), false);
        answers.due("draw() of one", Graphs.desk(1).draw(), false);
        answers.due("draw() of none", Graphs.desk(0).draw(), false);
    }

    @Says(promise = 16, sentence = DRAWN, edge = "the least: three vertices")
    static void threeVerticesAreDrawn(Answers answers) {
        PlaneDesk desk = Graphs.ring(3);
        answers.due("draw()", desk.draw(), true);
        answers.dueAt(desk, 0, 0, 0, 0);
        answers.dueAt(desk, 1, 2, 0, 1);
        answers.dueAt(desk, 2, 1, 1, 2);
    }

    @Says(promise = 16, sentence = DRAWN, edge = "one edge too few")
    static void oneEdgeTooFewIsNotDrawn(Answers answers) {
        answers.due("draw() of three with two", Graphs.desk(3, 0, 1, 1, 2).draw(), false);
        PlaneDesk desk = Graphs.fiveLessOne();
        desk.cut(8);
        answers.due("draw() of five with eight", desk.draw(), false);
    }

    @Says(promise = 16, sentence = DRAWN, edge = "one edge too many")
    static void oneEdgeTooManyIsNotDrawn(Answers answers) {
        PlaneDesk desk = Graphs.fiveLessOne();
        answers.due("draw() of five with nine", desk.draw(), true);
        desk.join(3, 4);
        answers.due("draw() of five with ten", desk.draw(), false);
    }

    @Says(promise = 16, sentence = DRAWN, edge = "as many edges, but it can't be laid out")
    static void whatCannotBeLaidOutIsNotDrawn(Answers answers) {
        PlaneDesk desk = asManyButKnotted();
        answers.due("about(1)", desk.about(1), 12);
        answers.due("draw()", desk.draw(), false);
        answers.due("at(0, 0)", desk.at(0, 0), NONE);
    }

    @Says(promise = 16, sentence = "by its TURN as it is laid out.", edge = "behind a swap")
    static void drawnAsLaidOutNotAsSwapped(Answers answers) {
        PlaneDesk desk = five();
        desk.lay();
        for (int v = 0; v < 5; v++) {
            desk.swap(v, 0, 2);
        }
        answers.due("draw()", desk.draw(), true);
        answers.dueAt(desk, 0, 4, 1, 2);
        answers.dueAt(desk, 1, 3, 3, 4);
        answers.dueAt(desk, 3, 3, 2, 3);
    }

    @Says(promise = 17, sentence = ABC, edge = "the least: these are all")
    static void threeVerticesAreAll(Answers answers) {
        PlaneDesk desk = Graphs.desk(3, 2, 1, 0, 1, 2, 0);
        desk.draw();
        answers.dueAt(desk, 1, 0, 0, 0);
        answers.dueAt(desk, 2, 2, 0, 1);
        answers.dueAt(desk, 0, 1, 1, 2);
    }

    @Says(promise = 17, sentence = ABC, edge = "the ends of edge 0, not vertices 0 and 1")
    static void theFirstFaceGivesTheFirstThree(Answers answers) {
        PlaneDesk desk = five();
        desk.draw();
        answers.due("face(0, 0)", desk.face(0, 0), 2);
        answers.due("face(0, 1)", desk.face(0, 1), 4);
        answers.due("face(0, 2)", desk.face(0, 2), 1);
        answers.due("at(2, 2)", desk.at(2, 2), 0);
        answers.due("at(4, 2)", desk.at(4, 2), 1);
        answers.due("at(1, 2)", desk.at(1, 2), 4);
    }

    @Says(promise = 17, sentence = "the RIM is A, C, B at first; from the last place on, VERTEX by VERTEX down "
            + "to the third",
            edge = "the last and the third place")
    static void theOrderIsFoundFromTheLastPlaceOn(Answers answers) {
        // A, B, C are 0, 1, 3: 3 has the last place, 2 the third.
        PlaneDesk desk = Graphs.tetrahedron();
        answers.due("at(3, 2)", desk.at(3, 2), 3);
        answers.due("at(2, 2)", desk.at(2, 2), 2);
    }

    @Says(promise = 17, sentence = TAKEN, edge = "the least has an edge to the rim elsewhere")
    static void theLeastThatIsFreeIsTaken(Answers answers) {
        PlaneDesk desk = five();
        desk.draw();
        answers.due("at(3, 2)", desk.at(3, 2), 3);
        answers.due("at(0, 2)", desk.at(0, 2), 2);
    }

    @Says(promise = 17, sentence = TAKEN, edge = "two are free")
    static void theLeastOfThoseThatAreFreeIsTaken(Answers answers) {
        PlaneDesk desk = six();
        desk.draw();
        answers.due("at(2, 2)", desk.at(2, 2), 4);
        answers.due("at(4, 2)", desk.at(4, 2), 3);
        answers.due("at(0, 2)", desk.at(0, 2), 2);
    }

    @Says(promise = 17, sentence = BETWEEN, edge = "a wrap-around: the one behind stands first around it")
    static void neighboursBetweenComeIntoTheRim(Answers answers) {
        // Around 1 it is 0 4 2 3, told from 0 on: between 2 and 4 come 3 and 0, around the end.
        PlaneDesk desk = five();
        desk.draw();
        answers.dueTurn(desk, 1, 0, 4, 2, 3);
        answers.dueAt(desk, 3, 3, 2, 3);
        answers.dueAt(desk, 0, 4, 1, 2);
    }

    @Says(promise = 17, sentence = BETWEEN, edge = "none between")
    static void noNeighbourBetween(Answers answers) {
        // 3 goes with none between 2 and 0; the rim is 2 0 4 then.
        PlaneDesk desk = five();
        desk.draw();
        answers.due("at(3, 2)", desk.at(3, 2), 3);
        answers.due("at(0, 2)", desk.at(0, 2), 2);
        answers.due("at(0, 0)", desk.at(0, 0), 4);
    }

    @Says(promise = 17, sentence = BETWEEN, edge = "the most neighbours between")
    static void seventeenNeighboursBetween(Answers answers) {
        // 0 to 17 in a row, 18 and 19 with all. A, B, C are 0, 1, 19; behind 19 the rim is 0 18 17 16 .. 2 1. 18 has
        // edges to all, so 17 goes, then 16 and so on down to 2; 18 is the third. Each k above 1 comes to stand at
        // (k, k), goes 2 on by each that comes behind it, and 1 by 19.
        PlaneDesk desk = Graphs.desk(20);
        for (int v = 1; v < 18; v++) {
            desk.join(v - 1, v);
        }
        for (int v = 0; v < 18; v++) {
            desk.join(v, 18);
            desk.join(v, 19);
        }
        desk.join(18, 19);
        answers.due("draw()", desk.draw(), true);
        answers.due("face(0, 2)", desk.face(0, 2), 19);
        answers.dueAt(desk, 0, 0, 0, 0);
        answers.dueAt(desk, 1, 36, 0, 1);
        answers.dueAt(desk, 18, 2, 1, 2);
        for (int k = 2; k < 18; k++) {
            answers.dueAt(desk, k, 35 - k, k, k + 1);
        }
        answers.dueAt(desk, 19, 18, 18, 19);
    }

    @Says(promise = 17, sentence = "A is the first, B the second.", edge = "the first two places")
    static void aIsTheFirstAndBTheSecond(Answers answers) {
        PlaneDesk desk = six();
        desk.draw();
        answers.due("at(3, 2)", desk.at(3, 2), 0);
        answers.due("at(5, 2)", desk.at(5, 2), 1);
    }

    @Says(promise = 17, sentence = "(The RIM is told from A to B.)", edge = "which is ahead, which behind")
    static void theRimIsToldFromAToB(Answers answers) {
        PlaneDesk desk = six();
        desk.draw();
        answers.dueAt(desk, 4, 3, 2, 3);
        answers.dueAt(desk, 2, 5, 2, 4);
    }

    @Says(promise = 17, sentence = "A 0, 0; B 2, 0; the third 1, 1; the CREST is A, it, B; each VERTEX carries itself.",
            edge = "the first three places")
    static void thePlacesOfTheFirstThree(Answers answers) {
        // B goes 2 on with each vertex behind the third.
        PlaneDesk three = Graphs.ring(3);
        three.draw();
        answers.due("at(1, 0) of three", three.at(1, 0), 2);
        PlaneDesk four = Graphs.tetrahedron();
        answers.dueAt(four, 0, 0, 0, 0);
        answers.dueAt(four, 1, 4, 0, 1);
        answers.dueAt(four, 2, 2, 1, 2);
    }

    @Says(promise = 17, sentence = "all that those between P and Q carry goes 1 on by x, all that Q and those "
            + "behind it carry goes 2",
            edge = "none between, and some behind Q")
    static void noneBetweenPAndQ(Answers answers) {
        // 3 comes between 2 (P) and 0 (Q): 0 and 4 go 2; then 1 over all: 3 and 0 go 1, 4 goes 2.
        PlaneDesk desk = five();
        desk.draw();
        answers.dueAt(desk, 2, 0, 0, 0);
        answers.dueAt(desk, 4, 6, 0, 1);
        answers.dueAt(desk, 0, 4, 1, 2);
        answers.dueAt(desk, 3, 3, 2, 3);
        answers.dueAt(desk, 1, 3, 3, 4);
    }

    @Says(promise = 17, sentence = "it stands at ((Px + Qx + Qy - Py) / 2, (Qx - Px + Py + Qy) / 2)",
            edge = "P and Q of unlike heights")
    static void aVertexStandsAboveItsNeighbours(Answers answers) {
        // 4 from 3 (0, 0) and 0 (3, 1): (2, 2). 2 from 0 (3, 1) and 5 (6, 0): (4, 2). 1 from 3 (0, 0) and 5 (8, 0).
        PlaneDesk desk = six();
        desk.draw();
        answers.dueAt(desk, 4, 3, 2, 3);
        answers.dueAt(desk, 2, 5, 2, 4);
        answers.dueAt(desk, 1, 4, 4, 5);
        answers.dueAt(desk, 0, 4, 1, 2);
        answers.dueAt(desk, 5, 8, 0, 1);
    }

    @Says(promise = 17, sentence = "carries what those between P and Q carried, and itself, and takes their "
            + "place on the CREST.",
            edge = "carried along though no longer on the crest")
    static void whatIsCarriedGoesAlong(Answers answers) {
        // The order is 0 1 2 3 4: 3 comes above 2 and carries it; with 4 both go 1 on.
        PlaneDesk desk = Graphs.desk(5, 0, 1, 0, 2, 0, 3, 0, 4, 1, 2, 1, 3, 1, 4, 2, 3, 3, 4);
        desk.draw();
        answers.dueAt(desk, 1, 6, 0, 1);
        answers.dueAt(desk, 2, 3, 1, 2);
        answers.dueAt(desk, 3, 3, 2, 3);
        answers.dueAt(desk, 4, 3, 3, 4);
    }

    @Says(promise = 19, sentence = "the one with the least EDGES to those that are left (the least number of "
            + "like ones) is taken away",
            edge = "all are alike")
    static void theLeastNumberOfLikeOnesIsTaken(Answers answers) {
        // 0, 1, 2, 3, 4 are taken in that order; so 4 gets 0, 3 gets 1, 2 gets 0, 1 gets 1, 0 gets 2.
        PlaneDesk desk = Graphs.ring(5);
        answers.due("colour()", desk.colour(), 3);
        answers.dueColours(desk, 2, 1, 0, 1, 0);
    }

    @Says(promise = 19, sentence = "the one with the least EDGES to those that are left (the least number of "
            + "like ones) is taken away",
            edge = "those that are left, not all")
    static void edgesToThoseThatAreLeftCount(Answers answers) {
        // Around 0 the ring 1 2 3 4 5, and 6 at 5. 6 is taken, then 1; then 2 and 5 have two left, 3, 4 three:
        // 2, 3, 0 (with 4 and 5), 4, 5. Backwards: 5 gets 0, 4 gets 1, 0 gets 2, 3 gets 0, 2 gets 1, 1 gets 3,
        // 6 gets 1.
        PlaneDesk desk = Graphs.desk(7, 0, 1, 0, 2, 0, 3, 0, 4, 0, 5, 1, 2, 2, 3, 3, 4, 4, 5, 5, 1, 5, 6);
        answers.due("colour()", desk.colour(), 4);
        answers.dueColours(desk, 2, 3, 1, 0, 1, 0, 1);
    }

    @Says(promise = 19, sentence = "then, the latest first, each gets the least colour (from 0) that no "
            + "neighbour has that got one.",
            edge = "the first colour, and colours used again")
    static void theLatestGetsColour0(Answers answers) {
        PlaneDesk desk = Graphs.desk(4, 0, 1, 1, 2, 2, 3);
        answers.due("colour()", desk.colour(), 2);
        answers.dueColours(desk, 1, 0, 1, 0);
        PlaneDesk all = Graphs.withEachOther(4, 4);
        answers.due("colour() of four with each other", all.colour(), 4);
        answers.dueColours(all, 3, 2, 1, 0);
    }

    // ---- Promise 15

    @Says(promise = 15, sentence = FILL, edge = "empty")
    static void fillOfNone(Answers answers) {
        answers.due("fill() of none", Graphs.desk(0).fill(), 0);
        answers.due("fill() of one", Graphs.desk(1).fill(), 0);
    }

    @Says(promise = 15, sentence = FILL, edge = "the least that take edges")
    static void fillOfTwoAndThree(Answers answers) {
        PlaneDesk two = Graphs.desk(2);
        answers.due("fill() of two", two.fill(), 1);
        answers.due("fill() of two again", two.fill(), 0);
        PlaneDesk three = Graphs.desk(3);
        answers.due("fill() of three", three.fill(), 3);
        answers.due("fill() of three again", three.fill(), 0);
    }

    @Says(promise = 15, sentence = FILL, edge = "the most vertices")
    static void fillOf20(Answers answers) {
        PlaneDesk desk = Graphs.desk(20);
        answers.due("fill()", desk.fill(), 54);
        answers.due("about(1)", desk.about(1), 54);
        answers.due("may(18, 19)", desk.may(18, 19), 0);
    }

    @Says(promise = 15, sentence = FILL, edge = "full")
    static void fillOfAFullGraph(Answers answers) {
        PlaneDesk desk = Graphs.fiveLessOne();
        answers.due("fill()", desk.fill(), 0);
        answers.due("about(1)", desk.about(1), 9);
        desk.cut(4);
        answers.due("fill() behind cut(4)", desk.fill(), 1);
        answers.due("about(1)", desk.about(1), 9);
    }

    @Says(promise = 15, sentence = "NONE, changing nothing: it can't be laid out.", edge = "a refused call")
    static void fillOfWhatCannotBeIsRefused(Answers answers) {
        PlaneDesk desk = Graphs.withEachOther(7, 5);
        desk.colour();
        answers.due("fill()", desk.fill(), NONE);
        answers.due("about(1)", desk.about(1), 10);
        answers.due("colourOf(0)", desk.colourOf(0), 4);
        answers.due("knot(0)", desk.knot(0), NONE);
        desk.lay();
        answers.due("fill() behind lay()", desk.fill(), NONE);
        answers.due("knot(0) behind lay()", desk.knot(0), 10);
    }

    @Says(promise = 15, sentence = "NONE, changing nothing: it can't be laid out.", edge = "60 edges")
    static void fillOf60EdgesIsRefused(Answers answers) {
        PlaneDesk desk = Graphs.sixtyEdges();
        answers.due("fill()", desk.fill(), NONE);
        answers.due("about(1)", desk.about(1), 60);
    }

    // ---- Promise 16

    @Says(promise = 16, sentence = "The graph is laid out (THE TURN is as by lay()) and DRAWN: true.",
            edge = "without lay() before it")
    static void drawLaysOut(Answers answers) {
        PlaneDesk desk = Graphs.withEachOther(4, 4);
        answers.due("draw()", desk.draw(), true);
        answers.dueLaidOut(desk, true);
        answers.dueDrawn(desk, true);
    }

    @Says(promise = 16, sentence = "The graph is laid out (THE TURN is as by lay()) and DRAWN: true.",
            edge = "behind a swap")
    static void drawMakesTheTurnAnew(Answers answers) {
        PlaneDesk desk = Graphs.tetrahedron();
        desk.swap(0, 0, 1);
        answers.due("turn(0, 0) behind a swap", desk.turn(0, 0), 2);
        answers.due("draw()", desk.draw(), true);
        answers.dueTurn(desk, 0, 1, 2, 3);
        answers.due("faces()", desk.faces(), 4);
    }

    @Says(promise = 16, sentence = "The graph is laid out (THE TURN is as by lay()) and DRAWN: true.",
            edge = "the most vertices")
    static void drawOf20(Answers answers) {
        PlaneDesk desk = Graphs.desk(20);
        desk.fill();
        answers.due("draw()", desk.draw(), true);
        answers.dueAt(desk, 0, 0, 0, 0);
        answers.dueAt(desk, 1, 36, 0, 1);
        int places = 0;
        int high = 0;
        for (int v = 0; v < 20; v++) {
            places |= 1 << desk.at(v, 2);
            high = Math.max(high, desk.at(v, 1));
        }
        answers.due("all places of the order", places, (1 << 20) - 1);
        answers.due("the highest y", high, 18);
    }

    @Says(promise = 16, sentence = "The graph is laid out (THE TURN is as by lay()) and DRAWN: true.",
            edge = "another graph on the same desk")
    static void drawOfASecondGraph(Answers answers) {
        PlaneDesk desk = five();
        desk.draw();
        desk.graph(3);
        desk.join(1, 0);
        desk.join(1, 2);
        desk.join(2, 0);
        answers.due("draw()", desk.draw(), true);
        answers.dueAt(desk, 0, 0, 0, 0);
        answers.dueAt(desk, 1, 2, 0, 1);
        answers.dueAt(desk, 2, 1, 1, 2);
        desk.graph(5);
        desk.fill();
        answers.due("draw() of five", desk.draw(), true);
        int places = 0;
        for (int v = 0; v < 5; v++) {
            places |= 1 << desk.at(v, 2);
        }
        answers.due("all places of the order", places, 31);
    }

    @Says(promise = 16, sentence = NOT_DRAWN, edge = "a refused call: the turn stays as it is")
    static void refusedDrawLeavesTheTurn(Answers answers) {
        PlaneDesk desk = Graphs.desk(4, 0, 1, 0, 2, 0, 3, 1, 2, 1, 3);
        answers.due("draw()", desk.draw(), false);
        answers.due("turn(0, 0)", desk.turn(0, 0), NONE);
        desk.lay();
        desk.swap(0, 0, 1);
        desk.colour();
        int first = desk.turn(0, 0);
        answers.due("draw() behind a swap", desk.draw(), false);
        answers.due("turn(0, 0) behind a swap", desk.turn(0, 0), first);
        answers.due("genus()", desk.genus(), 1);
        answers.due("colourOf(3)", desk.colourOf(3) != NONE, true);
    }

    @Says(promise = 16, sentence = NOT_DRAWN, edge = "a refused call: no knot comes, none goes")
    static void refusedDrawLeavesTheKnot(Answers answers) {
        PlaneDesk desk = asManyButKnotted();
        desk.draw();
        answers.due("knot(0)", desk.knot(0), NONE);
        desk.lay();
        answers.due("draw()", desk.draw(), false);
        answers.due("knot(0) behind lay()", desk.knot(0), 11);
    }

    // ---- Promise 17

    @Says(promise = 17, sentence = AT, edge = "the first and the last place, the least and the greatest what")
    static void atTellsPlaces(Answers answers) {
        PlaneDesk desk = Graphs.tetrahedron();
        answers.dueAt(desk, 0, 0, 0, 0);
        answers.dueAt(desk, 3, 2, 2, 3);
    }

    @Says(promise = 17, sentence = "NONE for others, and without.", edge = "a vertex too small")
    static void atOfLessThan0IsNone(Answers answers) {
        PlaneDesk desk = Graphs.tetrahedron();
        answers.dueAt(desk, -1, NONE, NONE, NONE);
        answers.dueAt(desk, LEAST, NONE, NONE, NONE);
    }

    @Says(promise = 17, sentence = "NONE for others, and without.", edge = "a vertex too large")
    static void atOfVIsNone(Answers answers) {
        PlaneDesk desk = Graphs.tetrahedron();
        answers.dueAt(desk, 4, NONE, NONE, NONE);
        answers.dueAt(desk, 20, NONE, NONE, NONE);
        answers.dueAt(desk, GREATEST, NONE, NONE, NONE);
    }

    @Says(promise = 17, sentence = "NONE for others, and without.", edge = "a what too small")
    static void atWhatOfLessThan0IsNone(Answers answers) {
        PlaneDesk desk = Graphs.tetrahedron();
        answers.due("at(3, -1)", desk.at(3, -1), NONE);
        answers.due("at(3, least)", desk.at(3, LEAST), NONE);
    }

    @Says(promise = 17, sentence = "NONE for others, and without.", edge = "a what too large")
    static void atWhatOf3IsNone(Answers answers) {
        PlaneDesk desk = Graphs.tetrahedron();
        answers.due("at(3, 3)", desk.at(3, 3), NONE);
        answers.due("at(3, greatest)", desk.at(3, GREATEST), NONE);
    }

    @Says(promise = 17, sentence = "NONE for others, and without.", edge = "without a drawing")
    static void atWithoutADrawingIsNone(Answers answers) {
        PlaneDesk desk = Graphs.withEachOther(4, 4);
        answers.dueDrawn(desk, false);
        desk.lay();
        answers.dueDrawn(desk, false);
        desk.draw();
        desk.cut(0);
        answers.dueDrawn(desk, false);
        desk.join(0, 1);
        desk.lay();
        answers.dueDrawn(desk, false);
    }

    // ---- Promise 18

    @Says(promise = 18, sentence = COLOUR, edge = "empty")
    static void colourOfNone(Answers answers) {
        answers.due("colour()", Graphs.desk(0).colour(), 0);
    }

    @Says(promise = 18, sentence = COLOUR, edge = "no edge: one colour")
    static void colourOfLonelyOnes(Answers answers) {
        answers.due("colour() of one", Graphs.desk(1).colour(), 1);
        answers.due("colour() of twenty", Graphs.desk(20).colour(), 1);
    }

    @Says(promise = 18, sentence = COLOUR, edge = "the most colours")
    static void colourOf11WithEachOther(Answers answers) {
        PlaneDesk desk = Graphs.withEachOther(11, 11);
        answers.due("about(1)", desk.about(1), 55);
        answers.due("colour()", desk.colour(), 11);
        answers.due("colourOf(0)", desk.colourOf(0), 10);
        answers.due("colourOf(10)", desk.colourOf(10), 0);
    }

    @Says(promise = 18, sentence = COLOUR, edge = "another graph on the same desk")
    static void colourOfASecondGraph(Answers answers) {
        PlaneDesk desk = Graphs.star(20);
        desk.colour();
        desk.graph(5);
        for (int v = 0; v < 5; v++) {
            desk.join(v, (v + 1) % 5);
        }
        answers.due("colour()", desk.colour(), 3);
        answers.dueColours(desk, 2, 1, 0, 1, 0, NONE);
    }

    @Says(promise = 18, sentence = COLOUR, edge = "it can't be laid out, and nothing else changes")
    static void colourOfWhatCannotBeLaidOut(Answers answers) {
        PlaneDesk desk = Graphs.knotted(5);
        answers.due("colour()", desk.colour(), 5);
        answers.due("knot(0)", desk.knot(0), 10);
        PlaneDesk drawn = Graphs.tetrahedron();
        drawn.colour();
        answers.dueTetrahedron(drawn, true);
    }

    // ---- Promise 19

    @Says(promise = 19, sentence = "The colour of a VERTEX.", edge = "the first and the last vertex")
    static void colourOfTheFirstAndTheLast(Answers answers) {
        PlaneDesk desk = Graphs.star(20);
        answers.due("colour()", desk.colour(), 2);
        answers.due("colourOf(0)", desk.colourOf(0), 1);
        answers.due("colourOf(1)", desk.colourOf(1), 0);
        answers.due("colourOf(19)", desk.colourOf(19), 0);
    }

    @Says(promise = 19, sentence = "NONE without.", edge = "a vertex too small")
    static void colourOfLessThan0IsNone(Answers answers) {
        PlaneDesk desk = Graphs.tetrahedron();
        answers.due("colourOf(-1)", desk.colourOf(-1), NONE);
        answers.due("colourOf(least)", desk.colourOf(LEAST), NONE);
    }

    @Says(promise = 19, sentence = "NONE without.", edge = "a vertex too large")
    static void colourOfVIsNone(Answers answers) {
        PlaneDesk desk = Graphs.tetrahedron();
        for (int v : new int[] {4, 19, 20, GREATEST}) {
            answers.due("colourOf(" + v + ")", desk.colourOf(v), NONE);
        }
        PlaneDesk none = Graphs.desk(0);
        none.colour();
        answers.due("colourOf(0) of none", none.colourOf(0), NONE);
    }

    @Says(promise = 19, sentence = "NONE without.", edge = "without colours")
    static void colourOfWithoutColoursIsNone(Answers answers) {
        PlaneDesk desk = Graphs.ring(3);
        answers.due("colourOf(0)", desk.colourOf(0), NONE);
        desk.draw();
        answers.due("colourOf(0) behind draw()", desk.colourOf(0), NONE);
        desk.colour();
        answers.due("colourOf(0) behind colour()", desk.colourOf(0), 2);
        desk.cut(0);
        answers.due("colourOf(0) behind cut(0)", desk.colourOf(0), NONE);
    }
}
