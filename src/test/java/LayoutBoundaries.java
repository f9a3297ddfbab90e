/** The boundary cases of Terms II and of promises 7 to 14: turns, faces, knots, edges that may come. */
final class LayoutBoundaries {
    private static final int NONE = PlaneDesk.NONE;
    private static final int LEAST = Integer.MIN_VALUE;
    private static final int GREATEST = Integer.MAX_VALUE;

    private static final String FIRST_WAY =
            "the shortest way from the higher end to the lower end of the BLOCK's least "
            + "EDGE without it (breadth first in the BLOCK, neighbours by their numbers, each VERTEX from the one that "
            + "first came to it)";
    private static final String TAKEN = "Else that one is taken that is the first that FITS one alone, or, if there is "
            + "none such, the first; and the first RING that it FITS.";
    private static final String A_WAY =
            "A WAY: from its least FOOT a, through VERTICES that aren't laid, to another FOOT b "
            + "(breadth first in the PART, neighbours by their numbers; the first other FOOT that is come to).";
    private static final String NEW_RING =
            "the RING from b on to a, then the WAY from behind a to ahead of b, comes behind all.";
    private static final String LEFT_OUT =
            "all EDGES at first; EDGE by EDGE, by their numbers, each is left out if the "
            + "others that are in it can't be laid out.";
    private static final String LAID = "The graph is laid out: THE TURN is there, how many FACES.";
    private static final String CANT = "NONE: it can't be; THE KNOT is there then.";
    private static final String TURN = "Neighbour i around a VERTEX by THE TURN, as it begins.";
    private static final String NO_TURN = "NONE if there is none such, and without one.";
    private static final String KNOT =
            "Of THE KNOT: 0 how many EDGES, 1 its sort (5 five with each other, 3 three with "
            + "three), 2 BRANCHES, 100 + i: its i-th EDGE, 200 + i: its i-th BRANCH (both rising).";
    private static final String NO_KNOT = "NONE for others, and without one.";
    private static final String NO_MAY = "NONE: no such ones, the same, they are joined, there are 60 EDGES, "
            + "or it can't be laid out.";

    private LayoutBoundaries() {
    }

    // ---- Terms II. The rings are told in the comments as the document makes them.

    @Says(promise = 7, sentence = "Each BLOCK by itself: one of a single EDGE as it is.", edge = "a single edge")
    static void aBlockOfASingleEdge(Answers answers) {
        PlaneDesk desk = Graphs.desk(3, 2, 0);
        answers.due("lay()", desk.lay(), 1);
        answers.dueTurn(desk, 0, 2);
        answers.dueTurn(desk, 1);
        answers.dueTurn(desk, 2, 0);
    }

    @Says(promise = 7, sentence = "Each BLOCK by itself: one of a single EDGE as it is.",
            edge = "the last block can't be laid out")
    static void theLastBlockCounts(Answers answers) {
        PlaneDesk desk = Graphs.desk(9, 0, 1, 1, 2, 0, 2, 2, 3);
        for (int u = 4; u < 9; u++) {
            for (int v = u + 1; v < 9; v++) {
                desk.join(u, v);
            }
        }
        answers.due("about(4)", desk.about(4), 3);
        answers.due("lay()", desk.lay(), NONE);
        answers.due("knot(100)", desk.knot(100), 4);
    }

    @Says(promise = 7, sentence = "Else RINGS are a row of rings of VERTICES, and what is on them is laid.",
            edge = "all is laid at once")
    static void aBlockThatIsARing(Answers answers) {
        PlaneDesk desk = Graphs.ring(3);
        answers.due("lay()", desk.lay(), 2);
        answers.dueTurn(desk, 0, 1, 2);
        answers.dueTurn(desk, 1, 0, 2);
        answers.dueTurn(desk, 2, 0, 1);
    }

    @Says(promise = 7, sentence = FIRST_WAY, edge = "two ways are as short: neighbours by their numbers")
    static void theFirstWayGoesByNumbers(Answers answers) {
        // From 3 to 2 by way of 0, not of 1: 2 3 0 and 2 0 3; then 2 1 3 parts the first: 2 3 1 and 3 0 2 1.
        PlaneDesk desk = Graphs.desk(4, 2, 3, 1, 2, 0, 2, 1, 3, 0, 3);
        answers.due("lay()", desk.lay(), 3);
        answers.dueTurn(desk, 2, 0, 1, 3);
        answers.dueTurn(desk, 3, 0, 2, 1);
    }

    @Says(promise = 7, sentence = FIRST_WAY, edge = "two ways are as short: from the higher end")
    static void theFirstWayGoesFromTheHigherEnd(Answers answers) {
        // From 5 by 0 and 2 to 4: 4 5 0 2 and 4 2 0 5. From 4 one would go by 1 and 3.
        // Then 4 1 3 5 parts the first: 4 5 3 1 and 5 0 2 4 1 3.
        PlaneDesk desk = Graphs.desk(6, 4, 5, 0, 2, 1, 4, 2, 4, 0, 5, 3, 5, 1, 3);
        answers.due("lay()", desk.lay(), 3);
        answers.dueTurn(desk, 4, 1, 5, 2);
        answers.dueTurn(desk, 5, 0, 4, 3);
    }

    @Says(promise = 7, sentence = FIRST_WAY, edge = "the shortest one, not that of the least numbers")
    static void theFirstWayIsTheShortest(Answers answers) {
        // From 4 by 3 to 0, not by 1 and 2: 0 4 3 and 0 3 4; then 0 2 1 4 parts the first: 0 4 1 2 and 4 3 0 2 1.
        PlaneDesk desk = Graphs.desk(5, 0, 4, 1, 4, 1, 2, 0, 2, 3, 4, 0, 3);
        answers.due("lay()", desk.lay(), 3);
        answers.dueTurn(desk, 0, 2, 4, 3);
        answers.dueTurn(desk, 4, 0, 1, 3);
    }

    @Says(promise = 7, sentence = "RING 0 is the lower end, then the higher one, then that way on",
            edge = "the first ring")
    static void ring0GoesFromTheLowerToTheHigherEnd(Answers answers) {
        // 0 1 3 and 0 3 1; then 0 2 3 parts the first: 0 1 3 2 and 3 0 2.
        PlaneDesk desk = Graphs.desk(4, 0, 1, 0, 2, 0, 3, 1, 3, 2, 3);
        answers.due("lay()", desk.lay(), 3);
        answers.dueTurn(desk, 0, 1, 3, 2);
        answers.dueTurn(desk, 3, 0, 1, 2);
    }

    @Says(promise = 7, sentence = "RING 1 the same backwards, from the lower end on.", edge = "a wrap-around")
    static void ring1GoesBackwards(Answers answers) {
        // Ring 0 has 0 behind 3, ring 1 has 3 behind 0: so both follow each other around every vertex.
        PlaneDesk desk = Graphs.ring(4);
        answers.due("lay()", desk.lay(), 2);
        answers.dueFace(desk, 0, 0, 1, 2, 3);
        answers.dueFace(desk, 1, 1, 0, 3, 2);
    }

    @Says(promise = 7, sentence = "As long as some EDGE of the BLOCK isn't laid", edge = "the most edges")
    static void allEdgesOfABlockAreLaid(Answers answers) {
        PlaneDesk desk = Graphs.desk(20);
        desk.fill();
        answers.due("lay()", desk.lay(), 36);
        int around = 0;
        for (int v = 0; v < 20; v++) {
            for (int i = 0; desk.turn(v, i) != NONE && i < 20; i++) {
                around++;
            }
        }
        answers.due("neighbours around all", around, 108);
        answers.due("genus()", desk.genus(), 0);
    }

    @Says(promise = 7, sentence = "PARTS: an EDGE whose ends are laid", edge = "a part without a vertex of its own")
    static void anEdgeBetweenLaidOnesIsAPart(Answers answers) {
        // 0 1 2 and 0 2 1; 0 3 1: 0 1 3 and 1 2 0 3. All vertices are laid then, but the edge 2 3 isn't:
        // 2 0 3 and 3 1 2.
        PlaneDesk desk = Graphs.withEachOther(4, 4);
        answers.due("lay()", desk.lay(), 4);
        answers.dueTurn(desk, 2, 0, 1, 3);
        answers.dueTurn(desk, 3, 0, 2, 1);
    }

    @Says(promise = 7, sentence = "or a greatest set of VERTICES of the BLOCK that aren't and hang together by "
            + "its EDGES",
            edge = "more than one vertex")
    static void aPartIsTheGreatestSet(Answers answers) {
        // 0 1 4 and 0 4 1; 2 and 3 are one part with feet 1 and 4: by itself 2 would have one foot alone.
        PlaneDesk desk = Graphs.desk(5, 0, 1, 0, 4, 1, 2, 1, 4, 2, 3, 3, 4);
        answers.due("lay()", desk.lay(), 3);
        answers.dueTurn(desk, 1, 0, 2, 4);
        answers.dueTurn(desk, 4, 0, 1, 3);
    }

    @Says(promise = 7, sentence = "its FEET are those of its VERTICES that are laid.", edge = "all feet, not two alone")
    static void allFeetCount(Answers answers) {
        // 0 1 2 and 0 2 1; 0 4 1: 0 1 4 and 1 2 0 4. 3 has feet 1, 2 and 4, and fits ring 2 alone; 1 and 2 are in
        // ring 1 too. So 1 2 3 and 2 0 4 1 3; then the edge 3 4: 3 2 0 4 and 4 1 3.
        PlaneDesk desk = Graphs.desk(5, 0, 1, 0, 2, 0, 4, 1, 2, 1, 3, 1, 4, 2, 3, 3, 4);
        answers.due("lay()", desk.lay(), 5);
        answers.dueTurn(desk, 1, 0, 4, 3, 2);
        answers.dueTurn(desk, 3, 1, 4, 2);
    }

    @Says(promise = 7, sentence = "PARTS are numbered by their least EDGES.", edge = "two parts")
    static void partsAreNumberedByLeastEdges(Answers answers) {
        // 1 2 3 and 1 3 2. 0 (edge 2) comes ahead of 4 (edge 3): 1 2 3 0 and 3 1 0; then 4: 1 2 4 and 2 3 0 1 4.
        PlaneDesk desk = Graphs.desk(5, 1, 2, 1, 3, 0, 1, 2, 4, 2, 3, 0, 3, 1, 4);
        answers.due("lay()", desk.lay(), 4);
        answers.dueTurn(desk, 1, 0, 4, 2, 3);
        answers.dueTurn(desk, 3, 0, 1, 2);
        // The same with 4 (edge 2) ahead of 0 (edge 3): 1 2 4 and 2 3 1 4; then 0 in ring 1: 1 3 0 and 3 2 1 0.
        PlaneDesk other = Graphs.desk(5, 1, 2, 1, 3, 2, 4, 0, 1, 2, 3, 0, 3, 1, 4);
        answers.due("lay()", other.lay(), 4);
        answers.dueTurn(other, 1, 0, 3, 4, 2);
        answers.dueTurn(other, 3, 0, 2, 1);
    }

    @Says(promise = 7, sentence = "A PART FITS a RING that has all its FEET.", edge = "a ring that has some of them")
    static void aPartFitsARingWithAllItsFeet(Answers answers) {
        // 0 1 3, 0 2 1 and 1 2 0 3: the edge 2 3 fits the last alone; the first has 3 without 2.
        PlaneDesk desk = Graphs.withEachOther(4, 4);
        answers.due("lay()", desk.lay(), 4);
        answers.dueTurn(desk, 2, 0, 1, 3);
        answers.dueTurn(desk, 3, 0, 2, 1);
    }

    @Says(promise = 7, sentence = "If one FITS none: the graph can't be laid out.", edge = "the first edge too many")
    static void aPartThatFitsNone(Answers answers) {
        PlaneDesk desk = Graphs.threeWithThree();
        answers.due("lay() of three with three", desk.lay(), NONE);
        desk.cut(8);
        answers.due("lay() without its last edge", desk.lay(), 4);
        PlaneDesk five = Graphs.fiveLessOne();
        answers.due("lay() of five less one", five.lay(), 6);
        five.join(3, 4);
        answers.due("lay() of five", five.lay(), NONE);
    }

    @Says(promise = 7, sentence = TAKEN, edge = "one alone goes ahead of the first")
    static void thePartThatFitsOneAloneGoesFirst(Answers answers) {
        // 1 3 2 and 1 2 3; 1 4 2: 1 3 2 4 and 2 1 4. 0 (feet 1, 4) is the first part, but 3 4 fits ring 0 alone:
        // 3 2 4 and 4 1 3; then 0 in ring 2: 1 4 0 and 4 2 1 0.
        PlaneDesk desk = Graphs.desk(5, 1, 3, 1, 4, 0, 1, 2, 3, 3, 4, 2, 4, 1, 2, 0, 4);
        answers.due("lay()", desk.lay(), 5);
        answers.dueTurn(desk, 1, 0, 4, 3, 2);
        answers.dueTurn(desk, 4, 0, 2, 3, 1);
    }

    @Says(promise = 7, sentence = TAKEN, edge = "two that fit one alone: the first")
    static void theFirstOfThoseThatFitOneAlone(Answers answers) {
        // 1 2 0 and 1 0 2; 0 4 1: 0 1 4 and 1 2 0 4. 3 and the edge 2 4 both fit ring 2 alone; 3 is the first:
        // 2 0 4 3 and 4 1 2 3; then 2 4 in ring 2: 2 0 4 and 4 3 2.
        PlaneDesk desk = Graphs.desk(5, 1, 2, 3, 4, 0, 4, 0, 1, 1, 4, 2, 4, 2, 3, 0, 2);
        answers.due("lay()", desk.lay(), 5);
        answers.dueTurn(desk, 2, 0, 1, 3, 4);
        answers.dueTurn(desk, 4, 0, 2, 3, 1);
    }

    @Says(promise = 7, sentence = TAKEN, edge = "none fits one alone: the first")
    static void theFirstIfNoneFitsOneAlone(Answers answers) {
        // 0 1 2 and 0 2 1; 3 has feet 1 and 2, edges 1 and 3; 4 has feet 1 and 2, edges 2 and 4: 3 goes first:
        // 1 2 3 and 2 0 1 3; then 4 fits all three; in the first: 1 2 4 and 2 3 1 4.
        PlaneDesk desk = Graphs.desk(5, 0, 1, 1, 3, 1, 4, 2, 3, 2, 4, 0, 2, 1, 2);
        answers.due("lay()", desk.lay(), 4);
        answers.dueTurn(desk, 1, 0, 3, 4, 2);
        answers.dueTurn(desk, 2, 0, 1, 4, 3);
    }

    @Says(promise = 7, sentence = TAKEN, edge = "more than one ring: the first")
    static void theFirstRingThatItFits(Answers answers) {
        // 0 1 2 and 0 2 1; 3 (feet 0, 1) fits both and goes into the first: 0 1 3 and 1 2 0 3.
        PlaneDesk desk = Graphs.desk(4, 0, 1, 1, 2, 0, 2, 0, 3, 1, 3);
        answers.due("lay()", desk.lay(), 3);
        answers.dueTurn(desk, 0, 1, 2, 3);
        answers.dueTurn(desk, 1, 0, 3, 2);
    }

    @Says(promise = 7, sentence = A_WAY, edge = "the least foot")
    static void aWayBeginsAtTheLeastFoot(Answers answers) {
        // 1 4 0 and 1 0 4; the part of 2 and 3 has feet 0 and 4; 0 3 4, not 4 3 0: so 0 1 4 3 stays ahead and 4 0 3
        // comes behind; then 2 in ring 0: 3 0 1 4 2 and 4 3 2.
        PlaneDesk desk = Graphs.desk(5, 1, 4, 0, 1, 2, 4, 0, 3, 2, 3, 3, 4, 0, 4);
        answers.due("lay()", desk.lay(), 4);
        answers.dueTurn(desk, 0, 1, 4, 3);
        answers.dueTurn(desk, 3, 0, 4, 2);
    }

    @Says(promise = 7, sentence = A_WAY, edge = "the first other foot, not the least one")
    static void aWayEndsAtTheFirstFootThatIsComeTo(Answers answers) {
        // 2 4 1 and 2 1 4; 0, 3 and 5 have feet 1, 2 and 4; from 1 by 0 one comes to 4 before 2:
        // 1 2 4 0 and 4 1 0; then 5: 0 1 2 5 and 2 4 0 5; then 3 in ring 2: 0 4 3 and 4 1 0 3.
        PlaneDesk desk = Graphs.desk(6, 2, 4, 1, 4, 2, 5, 0, 5, 1, 2, 0, 4, 0, 3, 3, 4, 0, 1);
        answers.due("lay()", desk.lay(), 5);
        answers.dueTurn(desk, 0, 1, 3, 4, 5);
        answers.dueTurn(desk, 4, 0, 3, 1, 2);
    }

    @Says(promise = 7, sentence = A_WAY, edge = "through vertices that aren't laid")
    static void aWayGoesThroughVerticesThatAreNotLaid(Answers answers) {
        // 0 1 2 and 0 2 1; 3 and 4 have feet 0 and 2. The way from 0 is 3 4 2: the edge 0 2 is no part of it.
        PlaneDesk desk = Graphs.desk(5, 0, 1, 1, 2, 0, 2, 0, 3, 3, 4, 2, 4);
        answers.due("lay()", desk.lay(), 3);
        answers.dueTurn(desk, 0, 1, 2, 3);
        answers.dueTurn(desk, 2, 0, 1, 4);
    }

    @Says(promise = 7, sentence = "The RING from a on to b, then the WAY backwards to ahead of a, takes its place",
            edge = "a wrap-around: b stands ahead of a in the row")
    static void theRingFromAOnToBGoesAround(Answers answers) {
        // 1 3 0 and 1 0 3; a is 0, b is 3: from 0 on to 3 is 0 1 3, around the row's end; so 0 1 3 2 and 3 0 2.
        PlaneDesk desk = Graphs.desk(4, 1, 3, 0, 1, 0, 3, 0, 2, 2, 3);
        answers.due("lay()", desk.lay(), 3);
        answers.dueTurn(desk, 0, 1, 3, 2);
        answers.dueTurn(desk, 3, 0, 1, 2);
    }

    @Says(promise = 7, sentence = NEW_RING, edge = "a wrap-around: a stands ahead of b in the row")
    static void theRingFromBOnToAComesBehindAll(Answers answers) {
        // 0 1 2 and 0 2 1; 0 3 4 1: 0 1 4 3 and 1 2 0 3 4, the latter behind all. 5 (feet 3, 4) goes into ring 0:
        // 3 0 1 4 5 and 4 3 5.
        PlaneDesk desk = Graphs.desk(6, 0, 1, 1, 2, 0, 2, 0, 3, 3, 4, 1, 4, 3, 5, 4, 5);
        answers.due("lay()", desk.lay(), 4);
        answers.dueTurn(desk, 3, 0, 4, 5);
        answers.dueTurn(desk, 4, 1, 5, 3);
    }

    @Says(promise = 7, sentence = NEW_RING, edge = "the longest ring and the longest way")
    static void theLongestRingIsParted(Answers answers) {
        // 0 1 2 and 0 2 1; then 0 3 4 .. 19 1: 0 1 19 .. 3 and 1 2 0 3 .. 19, which has all 20.
        // The edge 2 19 parts it: 2 0 3 .. 19 and 19 1 2.
        PlaneDesk desk = Graphs.desk(20, 0, 1, 1, 2, 0, 2, 0, 3);
        for (int v = 3; v < 19; v++) {
            desk.join(v, v + 1);
        }
        desk.join(19, 1);
        desk.join(19, 2);
        answers.due("lay()", desk.lay(), 4);
        answers.dueTurn(desk, 0, 1, 2, 3);
        answers.dueTurn(desk, 1, 0, 19, 2);
        answers.dueTurn(desk, 2, 0, 1, 19);
        answers.dueTurn(desk, 19, 1, 18, 2);
        answers.due("face(0, 18)", desk.face(0, 18), 3);
        answers.due("face(0, 19)", desk.face(0, 19), NONE);
    }

    @Says(promise = 8, sentence = "z follows x around y, if in a RING y stands behind x and z behind y (in a ring).",
            edge = "a wrap-around")
    static void followersGoAroundTheEndOfARing(Answers answers) {
        // 0 1 3 2, 0 3 1 and 3 0 2: around 0, the first of two, 1 follows 2 and 3 follows 1; around 2, the last of two,
        // 0 follows 3 and 3 follows 0.
        PlaneDesk desk = Graphs.desk(4, 0, 1, 0, 2, 0, 3, 1, 3, 2, 3);
        desk.lay();
        answers.dueTurn(desk, 0, 1, 3, 2);
        answers.dueTurn(desk, 2, 0, 3);
    }

    @Says(promise = 8, sentence = "Around each VERTEX: BLOCK by BLOCK, by their numbers",
            edge = "the first and the last block")
    static void aroundAVertexGoesBlockByBlock(Answers answers) {
        // Edges 2 5 (block 0), the ring 2 3 4 (block 1), the ring 0 1 2 (block 2).
        PlaneDesk desk = Graphs.desk(6, 2, 5, 3, 2, 0, 1, 3, 4, 2, 1, 4, 2, 0, 2);
        desk.lay();
        answers.dueTurn(desk, 2, 5, 3, 4, 0, 1);
    }

    @Says(promise = 8, sentence = "each one's neighbours from the least on.", edge = "the first neighbour")
    static void aroundAVertexBeginsWithTheLeast(Answers answers) {
        // 2 3 0 and 2 0 3; then 2 3 1 and 3 0 2 1: around 2 it is 0 1 3, told from 0 on.
        PlaneDesk desk = Graphs.desk(4, 2, 3, 1, 2, 0, 2, 1, 3, 0, 3);
        desk.lay();
        answers.dueTurn(desk, 2, 0, 1, 3);
        answers.dueTurn(desk, 3, 0, 2, 1);
    }

    @Says(promise = 13, sentence = LEFT_OUT, edge = "none can be left out")
    static void aKnotOfAllEdges(Answers answers) {
        PlaneDesk desk = Graphs.knotted(5);
        answers.due("knot(0)", desk.knot(0), 10);
        PlaneDesk three = Graphs.threeWithThree();
        three.lay();
        answers.due("knot(0) of three with three", three.knot(0), 9);
    }

    @Says(promise = 13, sentence = LEFT_OUT, edge = "all edges at first: a second knot on the same desk")
    static void aSecondKnotHasNothingOfTheFirst(Answers answers) {
        // First edges 0 to 4 are left out; then edge 0 alone, and 1 to 10 are five with each other.
        PlaneDesk desk = Graphs.withEachOther(6, 6);
        desk.lay();
        desk.graph(6);
        desk.join(0, 5);
        for (int u = 0; u < 5; u++) {
            for (int v = u + 1; v < 5; v++) {
                desk.join(u, v);
            }
        }
        answers.due("lay()", desk.lay(), NONE);
        answers.due("knot(0)", desk.knot(0), 10);
        answers.due("knot(2)", desk.knot(2), 5);
        for (int i = 0; i < 10; i++) {
            answers.due("knot(" + (100 + i) + ")", desk.knot(100 + i), i + 1);
        }
        for (int i = 0; i < 5; i++) {
            answers.due("knot(" + (200 + i) + ")", desk.knot(200 + i), i);
        }
    }

    @Says(promise = 13, sentence = LEFT_OUT, edge = "the first go first")
    static void theFirstEdgesAreLeftOutFirst(Answers answers) {
        // Six with each other: all of 0 go, edges 0 to 4; then the others are five with each other.
        PlaneDesk desk = Graphs.withEachOther(6, 6);
        desk.lay();
        answers.due("knot(0)", desk.knot(0), 10);
        answers.due("knot(100)", desk.knot(100), 5);
        answers.due("knot(109)", desk.knot(109), 14);
    }

    @Says(promise = 13, sentence = "BRANCHES: VERTICES of three or more of its EDGES.", edge = "two and three")
    static void branchesHaveThreeOrMore(Answers answers) {
        // Three with three, 2 and 5 by way of 6: 6 has two of its edges, all others three.
        PlaneDesk desk = Graphs.desk(7, 0, 3, 0, 4, 0, 5, 1, 3, 1, 4, 1, 5, 2, 3, 2, 4, 2, 6, 5, 6);
        desk.lay();
        answers.due("knot(2)", desk.knot(2), 6);
        answers.due("knot(205)", desk.knot(205), 5);
        answers.due("knot(206)", desk.knot(206), NONE);
    }

    // ---- Promise 7

    @Says(promise = 7, sentence = LAID, edge = "empty")
    static void layOfNothing(Answers answers) {
        PlaneDesk none = Graphs.desk(0);
        answers.due("lay() of no vertices", none.lay(), 0);
        answers.due("faces() of no vertices", none.faces(), 0);
        PlaneDesk lonely = Graphs.desk(20);
        answers.due("lay() of lonely ones", lonely.lay(), 0);
        answers.due("faces() of lonely ones", lonely.faces(), 0);
        answers.due("genus() of lonely ones", lonely.genus(), 0);
    }

    @Says(promise = 7, sentence = LAID, edge = "full")
    static void layOfTheFullest(Answers answers) {
        PlaneDesk desk = Graphs.desk(20);
        answers.due("fill()", desk.fill(), 54);
        answers.due("lay()", desk.lay(), 36);
        answers.due("faces()", desk.faces(), 36);
    }

    @Says(promise = 7, sentence = LAID, edge = "a second time, behind a swap")
    static void layMakesTheTurnAnew(Answers answers) {
        PlaneDesk desk = Graphs.tetrahedron();
        desk.swap(0, 0, 1);
        answers.due("faces()", desk.faces(), 2);
        answers.due("lay()", desk.lay(), 4);
        answers.dueTetrahedron(desk, true);
        answers.dueTurn(desk, 0, 1, 2, 3);
    }

    @Says(promise = 7, sentence = LAID, edge = "another graph on the same desk")
    static void layOfASecondGraph(Answers answers) {
        PlaneDesk desk = Graphs.desk(20);
        desk.fill();
        desk.lay();
        desk.graph(4);
        desk.join(3, 2);
        desk.join(2, 1);
        desk.join(1, 3);
        answers.due("lay()", desk.lay(), 2);
        answers.dueTurn(desk, 0);
        answers.dueTurn(desk, 1, 2, 3);
        answers.dueTurn(desk, 2, 1, 3);
        answers.dueTurn(desk, 3, 1, 2);
        answers.dueFace(desk, 0, 2, 3, 1);
        answers.dueFace(desk, 1, 3, 2, 1);
        answers.due("face(2, 0)", desk.face(2, 0), NONE);
        answers.due("genus()", desk.genus(), 0);
    }

    @Says(promise = 7, sentence = CANT, edge = "a refused call")
    static void layOfWhatCannotBe(Answers answers) {
        PlaneDesk desk = Graphs.withEachOther(5, 5);
        answers.due("lay()", desk.lay(), NONE);
        answers.due("knot(0)", desk.knot(0), 10);
        answers.due("faces()", desk.faces(), NONE);
        answers.due("turn(0, 0)", desk.turn(0, 0), NONE);
        answers.due("lay() again", desk.lay(), NONE);
        answers.due("knot(0) again", desk.knot(0), 10);
    }

    @Says(promise = 7, sentence = CANT, edge = "full")
    static void layOf60Edges(Answers answers) {
        PlaneDesk desk = Graphs.sixtyEdges();
        answers.due("lay()", desk.lay(), NONE);
        // 5, 6 and 7 with 9, 10 and 11 are left: edge 48 is the first of these, edge 59 the last.
        int[] edges = {48, 49, 50, 53, 54, 55, 57, 58, 59};
        answers.due("knot(0)", desk.knot(0), edges.length);
        for (int i = 0; i < edges.length; i++) {
            answers.due("knot(" + (100 + i) + ")", desk.knot(100 + i), edges[i]);
        }
        answers.due("knot(1)", desk.knot(1), 3);
        answers.due("knot(205)", desk.knot(205), 11);
    }

    @Says(promise = 7, sentence = CANT, edge = "it can be: there is none")
    static void layOfWhatCanBeMakesNoKnot(Answers answers) {
        PlaneDesk desk = Graphs.fiveLessOne();
        answers.due("lay()", desk.lay(), 6);
        answers.due("knot(0)", desk.knot(0), NONE);
    }

    // ---- Promise 8

    @Says(promise = 8, sentence = TURN, edge = "the first and the last of the most neighbours")
    static void turnOf19Neighbours(Answers answers) {
        PlaneDesk desk = Graphs.star(20);
        desk.lay();
        answers.due("turn(0, 0)", desk.turn(0, 0), 1);
        answers.due("turn(0, 18)", desk.turn(0, 18), 19);
        answers.due("turn(19, 0)", desk.turn(19, 0), 0);
    }

    @Says(promise = 8, sentence = NO_TURN, edge = "a place too small")
    static void turnBelowPlace0IsNone(Answers answers) {
        PlaneDesk desk = Graphs.tetrahedron();
        answers.due("turn(0, -1)", desk.turn(0, -1), NONE);
        answers.due("turn(0, least)", desk.turn(0, LEAST), NONE);
    }

    @Says(promise = 8, sentence = NO_TURN, edge = "a place too large, no wrap-around")
    static void turnBehindTheLastPlaceIsNone(Answers answers) {
        PlaneDesk desk = Graphs.tetrahedron();
        answers.due("turn(0, 2)", desk.turn(0, 2), 3);
        answers.due("turn(0, 3)", desk.turn(0, 3), NONE);
        answers.due("turn(0, greatest)", desk.turn(0, GREATEST), NONE);
        PlaneDesk star = Graphs.star(20);
        star.lay();
        answers.due("turn(0, 19) of 19", star.turn(0, 19), NONE);
        answers.due("turn(0, 20) of 19", star.turn(0, 20), NONE);
    }

    @Says(promise = 8, sentence = NO_TURN, edge = "a vertex too small or too large")
    static void turnOfNoVertexIsNone(Answers answers) {
        PlaneDesk desk = Graphs.tetrahedron();
        for (int v : new int[] {-1, 4, 19, 20, LEAST, GREATEST}) {
            answers.due("turn(" + v + ", 0)", desk.turn(v, 0), NONE);
        }
    }

    @Says(promise = 8, sentence = NO_TURN, edge = "empty")
    static void turnOfALonelyOneIsNone(Answers answers) {
        PlaneDesk desk = Graphs.star(20);
        desk.lay();
        desk.graph(20);
        desk.lay();
        answers.due("turn(0, 0)", desk.turn(0, 0), NONE);
        answers.due("turn(19, 0)", desk.turn(19, 0), NONE);
    }

    @Says(promise = 8, sentence = NO_TURN, edge = "without a turn")
    static void turnWithoutOneIsNone(Answers answers) {
        PlaneDesk desk = Graphs.withEachOther(4, 4);
        answers.due("turn(0, 0)", desk.turn(0, 0), NONE);
        desk.about(5);
        desk.may(0, 1);
        answers.due("turn(0, 0) behind about(5)", desk.turn(0, 0), NONE);
        desk.lay();
        desk.cut(5);
        answers.due("turn(0, 0) behind cut(5)", desk.turn(0, 0), NONE);
        answers.due("turn(0, 0) of what can't be", Graphs.knotted(5).turn(0, 0), NONE);
    }

    // ---- Promise 9

    @Says(promise = 9, sentence = "Places i and k around a VERTEX change their neighbours: true.",
            edge = "the first and the last place")
    static void swapOfTheFirstAndTheLast(Answers answers) {
        PlaneDesk desk = Graphs.star(20);
        desk.lay();
        answers.due("swap(0, 0, 18)", desk.swap(0, 0, 18), true);
        answers.due("turn(0, 0)", desk.turn(0, 0), 19);
        answers.due("turn(0, 1)", desk.turn(0, 1), 2);
        answers.due("turn(0, 18)", desk.turn(0, 18), 1);
        answers.due("swap(0, 18, 0)", desk.swap(0, 18, 0), true);
        answers.due("turn(0, 0)", desk.turn(0, 0), 1);
    }

    @Says(promise = 9, sentence = "Places i and k around a VERTEX change their neighbours: true.",
            edge = "a place with itself")
    static void swapOfAPlaceWithItself(Answers answers) {
        PlaneDesk desk = Graphs.star(4);
        desk.lay();
        answers.due("swap(0, 2, 2)", desk.swap(0, 2, 2), true);
        answers.dueTurn(desk, 0, 1, 2, 3);
        answers.due("swap(3, 0, 0)", desk.swap(3, 0, 0), true);
        answers.dueTurn(desk, 3, 0);
    }

    @Says(promise = 9, sentence = "False: there are none such.", edge = "a place too small")
    static void swapBelowPlace0IsRefused(Answers answers) {
        PlaneDesk desk = Graphs.tetrahedron();
        answers.due("swap(0, -1, 0)", desk.swap(0, -1, 0), false);
        answers.due("swap(0, 0, -1)", desk.swap(0, 0, -1), false);
        answers.due("swap(0, least, 0)", desk.swap(0, LEAST, 0), false);
        answers.due("swap(0, 0, least)", desk.swap(0, 0, LEAST), false);
    }

    @Says(promise = 9, sentence = "False: there are none such.", edge = "a place too large")
    static void swapBehindTheLastPlaceIsRefused(Answers answers) {
        PlaneDesk desk = Graphs.tetrahedron();
        answers.due("swap(0, 3, 0)", desk.swap(0, 3, 0), false);
        answers.due("swap(0, 0, 3)", desk.swap(0, 0, 3), false);
        answers.due("swap(0, 3, 3)", desk.swap(0, 3, 3), false);
        answers.due("swap(0, greatest, 0)", desk.swap(0, GREATEST, 0), false);
        answers.due("swap(0, 0, greatest)", desk.swap(0, 0, GREATEST), false);
        PlaneDesk star = Graphs.star(20);
        star.lay();
        answers.due("swap(0, 19, 0) of 19", star.swap(0, 19, 0), false);
        answers.due("swap(0, 0, 19) of 19", star.swap(0, 0, 19), false);
    }

    @Says(promise = 9, sentence = "False: there are none such.",
            edge = "a vertex too small or too large, or a lonely one")
    static void swapAroundNoVertexIsRefused(Answers answers) {
        PlaneDesk desk = Graphs.desk(4, 0, 1, 1, 2);
        desk.lay();
        for (int v : new int[] {-1, 3, 4, 19, 20, LEAST, GREATEST}) {
            answers.due("swap(" + v + ", 0, 0)", desk.swap(v, 0, 0), false);
        }
    }

    @Says(promise = 9, sentence = "False: there are none such.", edge = "without a turn")
    static void swapWithoutATurnIsRefused(Answers answers) {
        PlaneDesk desk = Graphs.tetrahedron();
        answers.due("swap(0, 0, 1)", desk.swap(0, 0, 1), true);
        desk.cut(5);
        answers.due("swap(0, 0, 1) behind cut(5)", desk.swap(0, 0, 1), false);
        answers.due("swap(0, 0, 1) of what can't be", Graphs.knotted(5).swap(0, 0, 1), false);
    }

    @Says(promise = 9, sentence = "False: there are none such.", edge = "a refused call")
    static void refusedSwapChangesNothing(Answers answers) {
        PlaneDesk desk = Graphs.tetrahedron();
        desk.swap(0, 0, 3);
        desk.swap(0, -1, 2);
        answers.dueTurn(desk, 0, 1, 2, 3);
        answers.dueTetrahedron(desk, true);
    }

    // ---- Promise 10

    @Says(promise = 10, sentence = "FACES of THE TURN as it is.", edge = "behind a swap and a swap back")
    static void facesOfTheTurnAsItIs(Answers answers) {
        PlaneDesk desk = Graphs.tetrahedron();
        answers.due("faces()", desk.faces(), 4);
        desk.swap(0, 0, 1);
        answers.due("faces() behind a swap", desk.faces(), 2);
        desk.swap(0, 0, 1);
        answers.due("faces() behind a swap back", desk.faces(), 4);
    }

    @Says(promise = 10, sentence = "FACES of THE TURN as it is.", edge = "empty")
    static void facesWithoutEdgesAre0(Answers answers) {
        PlaneDesk desk = Graphs.desk(1);
        desk.lay();
        answers.due("faces()", desk.faces(), 0);
    }

    @Says(promise = 10, sentence = "NONE without one.", edge = "without a turn")
    static void facesWithoutATurnAreNone(Answers answers) {
        PlaneDesk desk = Graphs.withEachOther(4, 4);
        answers.due("faces()", desk.faces(), NONE);
        desk.lay();
        desk.cut(0);
        answers.due("faces() behind cut(0)", desk.faces(), NONE);
        answers.due("faces() of what can't be", Graphs.knotted(5).faces(), NONE);
    }

    // ---- Promise 11

    @Says(promise = 11, sentence = "Where DART i (from 0) of a FACE begins.",
            edge = "the first and the last dart of a long face")
    static void faceOf38Darts(Answers answers) {
        PlaneDesk desk = Graphs.star(20);
        desk.lay();
        answers.due("face(0, 0)", desk.face(0, 0), 0);
        answers.due("face(0, 1)", desk.face(0, 1), 1);
        answers.due("face(0, 36)", desk.face(0, 36), 0);
        answers.due("face(0, 37)", desk.face(0, 37), 19);
        answers.due("face(0, 38)", desk.face(0, 38), NONE);
    }

    @Says(promise = 11, sentence = "Where DART i (from 0) of a FACE begins.",
            edge = "each dart once, also in the longest faces")
    static void facesHaveEachDartOnce(Answers answers) {
        PlaneDesk desk = Graphs.desk(20);
        desk.fill();
        desk.lay();
        for (int v = 0; v < 20; v++) {
            desk.swap(v, 0, 1);
        }
        int darts = 0;
        for (int f = 0; f < desk.faces(); f++) {
            for (int i = 0; i < 108 && desk.face(f, i) != NONE; i++) {
                darts++;
            }
        }
        answers.due("all darts", darts, 108);
    }

    @Says(promise = 11, sentence = "NONE if there is none such.", edge = "a dart too small")
    static void faceBelowDart0IsNone(Answers answers) {
        PlaneDesk desk = Graphs.tetrahedron();
        answers.due("face(0, -1)", desk.face(0, -1), NONE);
        answers.due("face(0, least)", desk.face(0, LEAST), NONE);
    }

    @Says(promise = 11, sentence = "NONE if there is none such.", edge = "a dart too large, no wrap-around")
    static void faceBehindTheLastDartIsNone(Answers answers) {
        PlaneDesk desk = Graphs.tetrahedron();
        answers.due("face(0, 2)", desk.face(0, 2), 3);
        for (int i : new int[] {3, 4, 6, 119, 120, GREATEST}) {
            answers.due("face(0, " + i + ")", desk.face(0, i), NONE);
        }
    }

    @Says(promise = 11, sentence = "NONE if there is none such.", edge = "a face too small")
    static void faceBelow0IsNone(Answers answers) {
        PlaneDesk desk = Graphs.tetrahedron();
        answers.due("face(-1, 0)", desk.face(-1, 0), NONE);
        answers.due("face(least, 0)", desk.face(LEAST, 0), NONE);
    }

    @Says(promise = 11, sentence = "NONE if there is none such.", edge = "a face too large")
    static void faceBehindTheLastIsNone(Answers answers) {
        PlaneDesk desk = Graphs.tetrahedron();
        answers.due("face(3, 0)", desk.face(3, 0), 1);
        answers.due("face(4, 0)", desk.face(4, 0), NONE);
        answers.due("face(greatest, 0)", desk.face(GREATEST, 0), NONE);
        desk.swap(0, 0, 1);
        answers.due("face(1, 0) behind a swap", desk.face(1, 0) != NONE, true);
        answers.due("face(2, 0) behind a swap", desk.face(2, 0), NONE);
    }

    @Says(promise = 11, sentence = "NONE if there is none such.", edge = "empty")
    static void faceWithoutEdgesIsNone(Answers answers) {
        PlaneDesk desk = Graphs.ring(3);
        desk.lay();
        desk.graph(3);
        desk.lay();
        answers.due("face(0, 0)", desk.face(0, 0), NONE);
    }

    @Says(promise = 11, sentence = "NONE if there is none such.", edge = "without a turn")
    static void faceWithoutATurnIsNone(Answers answers) {
        PlaneDesk desk = Graphs.tetrahedron();
        answers.due("face(0, 0)", desk.face(0, 0), 0);
        desk.cut(5);
        answers.due("face(0, 0) behind cut(5)", desk.face(0, 0), NONE);
    }

    // ---- Promise 12

    @Says(promise = 12, sentence = "GENUS of THE TURN as it is.", edge = "behind swaps")
    static void genusOfTheTurnAsItIs(Answers answers) {
        // Two of four with each other, and two lonely ones.
        PlaneDesk desk = Graphs.desk(10, 0, 1, 0, 2, 0, 3, 1, 2, 1, 3, 2, 3, 4, 5, 4, 6, 4, 7, 5, 6, 5, 7, 6, 7);
        desk.lay();
        answers.due("genus()", desk.genus(), 0);
        desk.swap(0, 0, 1);
        answers.due("genus() behind one swap", desk.genus(), 1);
        desk.swap(4, 0, 1);
        answers.due("genus() behind two", desk.genus(), 2);
        desk.lay();
        answers.due("genus() laid out again", desk.genus(), 0);
    }

    @Says(promise = 12, sentence = "NONE without one.", edge = "without a turn")
    static void genusWithoutATurnIsNone(Answers answers) {
        PlaneDesk desk = Graphs.withEachOther(4, 4);
        answers.due("genus()", desk.genus(), NONE);
        desk.lay();
        desk.cut(0);
        answers.due("genus() behind cut(0)", desk.genus(), NONE);
        answers.due("genus() of what can't be", Graphs.knotted(5).genus(), NONE);
    }

    // ---- Promise 13

    @Says(promise = 13, sentence = KNOT, edge = "the first and the last edge and branch")
    static void knotOfFive(Answers answers) {
        PlaneDesk desk = Graphs.knotted(7);
        answers.due("knot(0)", desk.knot(0), 10);
        answers.due("knot(1)", desk.knot(1), 5);
        answers.due("knot(2)", desk.knot(2), 5);
        answers.due("knot(100)", desk.knot(100), 0);
        answers.due("knot(109)", desk.knot(109), 9);
        answers.due("knot(200)", desk.knot(200), 0);
        answers.due("knot(204)", desk.knot(204), 4);
    }

    @Says(promise = 13, sentence = KNOT, edge = "the other sort")
    static void knotOfThreeWithThree(Answers answers) {
        PlaneDesk desk = Graphs.threeWithThree();
        desk.lay();
        answers.due("knot(0)", desk.knot(0), 9);
        answers.due("knot(1)", desk.knot(1), 3);
        answers.due("knot(2)", desk.knot(2), 6);
        answers.due("knot(108)", desk.knot(108), 8);
        answers.due("knot(205)", desk.knot(205), 5);
    }

    @Says(promise = 13, sentence = KNOT, edge = "the most edges that a knot can have")
    static void knotOf25Edges(Answers answers) {
        // Five with each other, 5 to 19 on their ways: ten ways of 15 vertices and 25 edges.
        PlaneDesk desk = Graphs.desk(20);
        int between = 5;
        for (int u = 0; u < 5; u++) {
            for (int v = u + 1; v < 5; v++) {
                desk.join(u, between);
                if (between < 15) {
                    desk.join(between, between + 5);
                    desk.join(between + 5, v);
                } else {
                    desk.join(between, v);
                }
                between = between == 9 ? 15 : between + 1;
            }
        }
        answers.due("about(1)", desk.about(1), 25);
        answers.due("lay()", desk.lay(), NONE);
        answers.due("knot(0)", desk.knot(0), 25);
        answers.due("knot(1)", desk.knot(1), 5);
        answers.due("knot(124)", desk.knot(124), 24);
        answers.due("knot(125)", desk.knot(125), NONE);
        answers.due("knot(2)", desk.knot(2), 5);
    }

    @Says(promise = 13, sentence = KNOT, edge = "rising, with gaps")
    static void knotsRise(Answers answers) {
        // Five with each other of 1, 3, 4, 5, 6; edges 0, 4 and 12 go to 0 and 2.
        PlaneDesk desk = Graphs.desk(7, 0, 2, 1, 3, 1, 4, 1, 5, 0, 1, 1, 6, 3, 4, 3, 5, 3, 6, 4, 5, 4, 6, 5, 6, 2, 6);
        desk.lay();
        int[] edges = {1, 2, 3, 5, 6, 7, 8, 9, 10, 11};
        int[] branches = {1, 3, 4, 5, 6};
        for (int i = 0; i < edges.length; i++) {
            answers.due("knot(" + (100 + i) + ")", desk.knot(100 + i), edges[i]);
        }
        for (int i = 0; i < branches.length; i++) {
            answers.due("knot(" + (200 + i) + ")", desk.knot(200 + i), branches[i]);
        }
    }

    @Says(promise = 13, sentence = NO_KNOT, edge = "too small")
    static void knotOfLessThan0IsNone(Answers answers) {
        PlaneDesk desk = Graphs.knotted(5);
        answers.due("knot(-1)", desk.knot(-1), NONE);
        answers.due("knot(least)", desk.knot(LEAST), NONE);
    }

    @Says(promise = 13, sentence = NO_KNOT, edge = "between 2 and 100")
    static void knotOf3To99IsNone(Answers answers) {
        PlaneDesk desk = Graphs.knotted(5);
        for (int what = 3; what < 100; what++) {
            answers.due("knot(" + what + ")", desk.knot(what), NONE);
        }
    }

    @Says(promise = 13, sentence = NO_KNOT, edge = "behind the last edge")
    static void knotBehindTheLastEdgeIsNone(Answers answers) {
        PlaneDesk desk = Graphs.knotted(5);
        for (int what = 110; what < 200; what++) {
            answers.due("knot(" + what + ")", desk.knot(what), NONE);
        }
    }

    @Says(promise = 13, sentence = NO_KNOT, edge = "too large")
    static void knotBehindTheLastBranchIsNone(Answers answers) {
        PlaneDesk desk = Graphs.knotted(5);
        for (int what : new int[] {205, 206, 219, 220, 300, GREATEST}) {
            answers.due("knot(" + what + ")", desk.knot(what), NONE);
        }
    }

    @Says(promise = 13, sentence = NO_KNOT, edge = "without a knot")
    static void knotWithoutOneIsNone(Answers answers) {
        PlaneDesk desk = Graphs.withEachOther(5, 5);
        desk.about(5);
        desk.may(0, 1);
        desk.fill();
        desk.draw();
        for (int what : new int[] {0, 1, 2, 100, 200}) {
            answers.due("knot(" + what + ")", desk.knot(what), NONE);
        }
        desk.lay();
        answers.due("knot(0) behind lay()", desk.knot(0), 10);
        desk.cut(0);
        desk.lay();
        answers.due("knot(0) behind cut(0)", desk.knot(0), NONE);
    }

    // ---- Promise 14

    @Says(promise = 14, sentence = "Whether two VERTICES could be joined so that the graph can be laid out (1, 0).",
            edge = "full, and one below")
    static void mayOfAFullGraph(Answers answers) {
        PlaneDesk desk = Graphs.fiveLessOne();
        answers.due("may(3, 4)", desk.may(3, 4), 0);
        answers.due("may(4, 3)", desk.may(4, 3), 0);
        desk.cut(0);
        answers.due("may(3, 4) behind cut(0)", desk.may(3, 4), 1);
        answers.due("may(0, 1) behind cut(0)", desk.may(1, 0), 1);
    }

    @Says(promise = 14, sentence = "Whether two VERTICES could be joined so that the graph can be laid out (1, 0).",
            edge = "it is asked, not done")
    static void mayChangesNothing(Answers answers) {
        PlaneDesk desk = Graphs.desk(4, 0, 1, 0, 2, 0, 3, 1, 2, 1, 3);
        desk.lay();
        desk.swap(0, 0, 1);
        desk.colour();
        int before = desk.turn(0, 0);
        answers.due("may(2, 3)", desk.may(2, 3), 1);
        answers.due("about(1)", desk.about(1), 5);
        answers.due("turn(0, 0)", desk.turn(0, 0), before);
        answers.due("genus()", desk.genus(), 1);
        answers.due("colourOf(0) there", desk.colourOf(0) != NONE, true);
        PlaneDesk two = Graphs.desk(4, 0, 1, 2, 3);
        two.lay();
        answers.due("may(1, 2)", two.may(1, 2), 1);
        answers.due("genus() of two edges", two.genus(), 0);
        answers.due("about(2) of two edges", two.about(2), 2);
        answers.due("turn(1, 1) of two edges", two.turn(1, 1), NONE);
    }

    @Says(promise = 14, sentence = NO_MAY, edge = "too small")
    static void mayOfLessThan0IsNone(Answers answers) {
        PlaneDesk desk = Graphs.desk(4);
        answers.due("may(-1, 0)", desk.may(-1, 0), NONE);
        answers.due("may(0, -1)", desk.may(0, -1), NONE);
        answers.due("may(least, 0)", desk.may(LEAST, 0), NONE);
        answers.due("may(0, least)", desk.may(0, LEAST), NONE);
    }

    @Says(promise = 14, sentence = NO_MAY, edge = "too large")
    static void mayOfVIsNone(Answers answers) {
        PlaneDesk desk = Graphs.desk(4);
        answers.due("may(3, 0)", desk.may(3, 0), 1);
        answers.due("may(4, 0)", desk.may(4, 0), NONE);
        answers.due("may(0, 4)", desk.may(0, 4), NONE);
        answers.due("may(greatest, 0)", desk.may(GREATEST, 0), NONE);
        answers.due("may(0, greatest)", desk.may(0, GREATEST), NONE);
        answers.due("may(20, 0) of 20", Graphs.desk(20).may(20, 0), NONE);
    }

    @Says(promise = 14, sentence = NO_MAY, edge = "the same")
    static void mayOfTheSameIsNone(Answers answers) {
        PlaneDesk desk = Graphs.desk(20);
        answers.due("may(0, 0)", desk.may(0, 0), NONE);
        answers.due("may(19, 19)", desk.may(19, 19), NONE);
    }

    @Says(promise = 14, sentence = NO_MAY, edge = "they are joined")
    static void mayOfJoinedOnesIsNone(Answers answers) {
        PlaneDesk desk = Graphs.desk(3, 0, 2);
        answers.due("may(0, 2)", desk.may(0, 2), NONE);
        answers.due("may(2, 0)", desk.may(2, 0), NONE);
    }

    @Says(promise = 14, sentence = NO_MAY, edge = "full")
    static void mayAt60IsNone(Answers answers) {
        answers.due("may(10, 11)", Graphs.sixtyEdges().may(10, 11), NONE);
    }

    @Says(promise = 14, sentence = NO_MAY, edge = "it can't be laid out")
    static void mayOfWhatCannotBeIsNone(Answers answers) {
        PlaneDesk desk = Graphs.withEachOther(7, 5);
        answers.due("may(5, 6)", desk.may(5, 6), NONE);
        answers.due("knot(0)", desk.knot(0), NONE);
        desk.cut(0);
        answers.due("may(5, 6) behind cut(0)", desk.may(5, 6), 1);
    }
}
