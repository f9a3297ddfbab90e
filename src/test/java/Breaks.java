import java.util.ArrayList;
import java.util.List;
import java.util.Set;

/**
 * The ways in which the program is broken, so that each boundary test is seen to fail. The texts are those of
 * PlaneDesk.java without comments, with one blank for each row of blanks.
 */
final class Breaks {
    private final List<Break> all = new ArrayList<>();

    private Breaks() {
    }

    static List<Break> all() {
        Breaks breaks = new Breaks();
        breaks.graphs();
        breaks.joins();
        breaks.cuts();
        breaks.edges();
        breaks.abouts();
        breaks.blocks();
        breaks.firstRings();
        breaks.parts();
        breaks.ways();
        breaks.lays();
        breaks.turns();
        breaks.faces();
        breaks.knots();
        breaks.mays();
        breaks.fills();
        breaks.draws();
        breaks.orders();
        breaks.places();
        breaks.colours();
        return breaks.all;
    }

    private void add(String text, String instead, String... tests) {
        all.add(new Break(text, instead, Set.of(tests)));
    }

    private void graphs() {
        add("NONE = -1;", "NONE = -2;", "noneIsMinus1");
        add("net.begin(0);", "net.begin(1);", "aNewObjectHasNoVertices");
        add("private boolean turned;", "private boolean turned = true;", "aNewObjectHasNothingElse");
        add("n < 0 || n > MOST_VERTICES", "n <= 0 || n > MOST_VERTICES", "graphOf0");
        add("n < 0 || n > MOST_VERTICES", "n < 0 || n >= MOST_VERTICES", "graphOf20", "verticesGoFrom0ToVLess1");
        add("n < 0 || n > MOST_VERTICES", "n > MOST_VERTICES", "graphOfLessThan0IsRefused");
        add("n < 0 || n > MOST_VERTICES", "n < 0", "graphOfMoreThan20IsRefused");
        add("n > MOST_VERTICES) { return false; }", "n > MOST_VERTICES) { forget(); return false; }",
                "refusedGraphChangesNothing");
        add("net.begin(n); forget();", "net.vertices = n; forget();", "aGraphBeginsWithoutEdges");
        add("net.begin(n); forget();", "net.begin(n);", "graphTakesTheTurnAway", "graphTakesTheKnotAway",
                "graphTakesTheDrawingAway", "graphTakesTheColoursAway");
        add("{ turned = false;", "{", "graphTakesTheTurnAway", "joinTakesAllAway", "cutTakesAllAway",
                "fillTakesAllAway");
        add("knotted = false;", "", "graphTakesTheKnotAway", "joinTakesAllAway", "cutTakesAllAway");
        add("drawn = false;", "", "graphTakesTheDrawingAway", "joinTakesAllAway", "cutTakesAllAway");
        add("coloured = false;", "", "graphTakesTheColoursAway", "joinTakesAllAway", "cutTakesAllAway",
                "fillTakesAllAway");
    }

    private void joins() {
        add("net.add(u, v); forget();", "net.add(u, v);", "joinTakesAllAway");
        add("if (!net.takes(u, v)) { return NONE; }", "if (!net.takes(u, v)) { forget(); return NONE; }",
                "refusedJoinTakesNothing");
        add("return net.edges - 1;", "return net.edges;", "joinAnswersFrom0To59");
        add("u >= 0 && u < vertices && v >= 0 && v < vertices", "u >= 0 && u <= vertices && v >= 0 && v <= vertices",
                "verticesGoFrom0ToVLess1", "joinOfVIsRefused", "mayOfVIsNone");
        add("u >= 0 && u < vertices && v >= 0 && v < vertices", "u < vertices && v < vertices",
                "joinOfLessThan0IsRefused", "mayOfLessThan0IsNone");
        add("&& u != v &&", "&&", "joinOfTheSameIsRefused", "mayOfTheSameIsNone");
        add("&& (near[u] >> v & 1) == 0 &&", "&&", "noTwoEdgesHaveLikeEnds", "joinOfJoinedOnesIsRefused",
                "mayOfJoinedOnesIsNone");
        add("== 0 && edges < MOST_EDGES;", "== 0 && edges <= MOST_EDGES;", "joinAt60IsRefused");
        add("== 0 && edges < MOST_EDGES;", "== 0 && edges < MOST_EDGES - 1;", "edgesGoFrom0ToELess1",
                "joinAnswersFrom0To59", "aboutTheLargest");
        add("lower[edges] = Math.min(u, v); higher[edges] = Math.max(u, v);", "lower[edges] = u; higher[edges] = v;",
                "endsAreLowerAndHigher", "edgeTellsEndsAndBlock");
    }

    private void cuts() {
        add("net.remove(e); forget();", "net.remove(e);", "cutTakesAllAway");
        add("if (!net.hasEdge(e)) { return false; }", "if (!net.hasEdge(e)) { forget(); return false; }",
                "refusedCutTakesNothing");
        add("public boolean cut(int e) { if (!net.hasEdge(e))",
                "private int cuts; public boolean cut(int e) { cuts++; if (cuts > 250 || !net.hasEdge(e))",
                "call512IsAnswered");
        add("public boolean cut(int e) { if (!net.hasEdge(e))",
                "public boolean cut(int e) { if (!net.hasEdge(e) || e > 0 && e == net.edges - 1)", "cutOfTheLast");
        add("public boolean cut(int e) { if (!net.hasEdge(e))",
                "public boolean cut(int e) { if (!net.hasEdge(e) || net.edges == 1)", "cutOfTheOnlyOne");
        add("for (int i = e; i < edges; i++)", "for (int i = e + 1; i < edges; i++)", "cutOfTheFirst");
        add("for (int i = e; i < edges; i++)", "for (int i = e; i < edges && i < 50; i++)", "cutOf60");
        add("return e >= 0 && e < edges;", "return e < edges;", "cutOfLessThan0IsRefused", "edgeOfLessThan0IsNone");
        add("return e >= 0 && e < edges;", "return e >= 0 && e <= edges;", "cutOfEIsRefused",
                "cutWithoutEdgesIsRefused",
                "edgeOfEIsNone", "edgeWithoutEdgesIsNone", "edgesGoFrom0ToELess1");
    }

    private void edges() {
        add("return layout.blocks.of(e);", "return layout.blocks.of(e) + 1;", "edgeTellsEndsAndBlock");
        add("switch (what) { case 0: return net.low(e);", "switch (Math.max(what, 0)) { case 0: return net.low(e);",
                "edgeWhatOfLessThan0IsNone");
        add("switch (what) { case 0: return net.low(e);", "switch (Math.min(what, 2)) { case 0: return net.low(e);",
                "edgeWhatOf3IsNone");
    }

    private void abouts() {
        add("return fits() ? 1 : 0;", "return net.vertices > 0 && fits() ? 1 : 0;", "aboutNoVertices");
        add("return layout.blocks.components;", "return layout.blocks.components - net.lonely();", "aboutTheLargest",
                "componentsHangTogetherByEdges");
        add("near[v] == 0) { found++;", "Integer.bitCount(near[v]) <= 1) { found++;", "lonelyOnesHaveNoEdge");
        add("coloured = false; fitness = UNKNOWN;", "coloured = false;", "aboutWhetherItCanBeLaidOut");
        add("switch (what) { case 0: return net.vertices;", "switch (Math.max(what, 0)) { case 0: return net.vertices;",
                "aboutLessThan0IsNone");
        add("switch (what) { case 0: return net.vertices;", "switch (Math.min(what, 5)) { case 0: return net.vertices;",
                "about6IsNone");
    }

    private void blocks() {
        add("number[e] = numberFor[stand];", "number[e] = 0;", "anEdgeOnNoRingIsABlock");
        add("} else { v = up[v]; } }", "} else { v = up[v]; } } merge(first, u);", "ringsWithAVertexTwiceAreNoBlock");
        add("for (int e = 0; e < net.edges; e++) { int stand", "for (int e = net.edges - 1; e >= 0; e--) { int stand",
                "blocksAreNumberedByLeastEdges");
    }

    private void firstRings() {
        add("made.add(block.high(0), block.low(0));", "", "aBlockOfASingleEdge");
        add("b < blocks.count; b++", "b < blocks.count - 1; b++", "theLastBlockCounts");
        add("done.edges < block.edges; round++", "done.edges <= block.edges; round++", "aBlockThatIsARing");
        add("search.seek(block, high, ~(bit(low) | bit(high)), bit(low)); "
                        + "rings.begin(low, high, search.way); markWay(high);",
                "search.seek(block, low, ~(bit(low) | bit(high)), bit(high)); markWay(low); "
                        + "Row turned = new Row(MOST_VERTICES); turned.addBackwards(search.way); "
                        + "rings.begin(low, high, turned);",
                "theFirstWayGoesFromTheHigherEnd");
        add("for (int v = 0; v < MOST_VERTICES && goal == NONE; v++)",
                "for (int v = MOST_VERTICES - 1; v >= 0 && goal == NONE; v--)", "theFirstWayGoesByNumbers");
        add("for (int i = 0; i < MOST_VERTICES && i < queue.size() && goal == NONE; i++) { int x = queue.get(i); "
                        + "int next = net.around(x) & (x == from ? left : left | goals); left &= ~next; "
                        + "for (int v = 0; v < MOST_VERTICES && goal == NONE; v++)",
                "for (int i = 0; i < MOST_VERTICES && queue.size() > 0 && goal == NONE; i++) { "
                        + "int x = queue.get(queue.size() - 1); queue.size--; "
                        + "int next = net.around(x) & (x == from ? left : left | goals); left &= ~next; "
                        + "for (int v = MOST_VERTICES - 1; v >= 0 && goal == NONE; v--)",
                "theFirstWayIsTheShortest");
        add("there.add(high); there.addBackwards(way); Row back = rows[1]; back.clear(); back.add(low); "
                        + "back.addPart(way, 0, way.size()); back.add(high);",
                "there.addPart(way, 0, way.size()); there.add(high); Row back = rows[1]; back.clear(); back.add(low); "
                        + "back.add(high); back.addBackwards(way);",
                "ring0GoesFromTheLowerToTheHigherEnd");
        add("back.addPart(way, 0, way.size()); back.add(high);", "back.add(high); back.addBackwards(way);",
                "ring1GoesBackwards");
    }

    private void parts() {
        add("round < MOST_EDGES && done", "round < 30 && done", "allEdgesOfABlockAreLaid", "layOfTheFullest",
                "fillOf20",
                "drawOf20");
        add("if ((outside & seen) != 0 ||", "if (outside == 0 || (outside & seen) != 0 ||",
                "anEdgeBetweenLaidOnesIsAPart");
        add("outside == 0 ? ends : spread(outside)", "outside == 0 ? ends : outside | block.aroundAll(outside)",
                "aPartIsTheGreatestSet");
        add("if (!weigh(part & ~laid, part & laid))",
                "int feet = part & laid; int rest = feet & feet - 1; "
                        + "if (!weigh(part & ~laid, feet & -feet | rest & -rest))",
                "allFeetCount");
        add("for (int e = 0; e < block.edges; e++) { int ends", "for (int e = block.edges - 1; e >= 0; e--) { int ends",
                "partsAreNumberedByLeastEdges");
        add("(bits[r] & feet) == feet", "(bits[r] & feet) != 0", "aPartFitsARingWithAllItsFeet");
        add("if (!choosePart()) { return false; }", "if (!choosePart()) { return true; }", "aPartThatFitsNone");
        add("boolean alone = rings.fitting(feet, first + 1) == NONE;", "boolean alone = false;",
                "thePartThatFitsOneAloneGoesFirst");
        add("if (chosenFitsOneAlone) { return true; }", "", "theFirstOfThoseThatFitOneAlone");
        add("if (alone || chosenRing == NONE)", "if (true)", "theFirstIfNoneFitsOneAlone");
        add("chosenRing = first;",
                "int later = rings.fitting(feet, first + 1); chosenRing = later == NONE ? first : later;",
                "theFirstRingThatItFits");
    }

    private void ways() {
        add("int a = leastOf(chosenFeet);", "int a = 31 - Integer.numberOfLeadingZeros(chosenFeet);",
                "aWayBeginsAtTheLeastFoot");
        add("search.seek(block, a, chosenInner, others);", "search.seek(block, a, chosenInner, bit(leastOf(others)));",
                "aWayEndsAtTheFirstFootThatIsComeTo");
        add("if (chosenInner == 0) { search", "if (chosenInner == 0 || block.joined(a, leastOf(others))) { search",
                "aWayGoesThroughVerticesThatAreNotLaid");
        add("place = ring.placeBehind(place);", "place++;", "theRingFromAOnToBGoesAround");
        add("rows[r].addArc(whole, a, b); rows[r].addPart(way, 0, way.size()); bits[r] = rows[r].bits(); "
                        + "rows[count].clear(); rows[count].addArc(whole, b, a); rows[count].addBackwards(way);",
                "rows[r].addArc(whole, b, a); rows[r].addBackwards(way); bits[r] = rows[r].bits(); "
                        + "rows[count].clear(); rows[count].addArc(whole, a, b); "
                        + "rows[count].addPart(way, 0, way.size());",
                "theRingFromBOnToAComesBehindAll");
        add("Row whole = new Row(MOST_VERTICES);", "Row whole = new Row(19);", "theLongestRingIsParted");
        add("step < MOST_VERTICES; step++) { int wider", "step < 15; step++) { int wider", "theLongestRingIsParted");
        add("rings.get(r, rings.placeBehind(r, i))", "rings.get(r, i + 1)", "followersGoAroundTheEndOfARing");
        add("for (int b = 0; b < blocks.count; b++)", "for (int b = blocks.count - 1; b >= 0; b--)",
                "aroundAVertexGoesBlockByBlock");
        add("int x = leastOf(block.around(y));", "int x = 31 - Integer.numberOfLeadingZeros(block.around(y));",
                "aroundAVertexBeginsWithTheLeast");
    }

    private void lays() {
        add("turned = true;", "turned = walks.count > 0;", "layOfNothing", "facesWithoutEdgesAre0",
                "genusOfLonelyOnesIs0");
        add("turning.copy(layout.made);", "if (!turned) { turning.copy(layout.made); }", "layMakesTheTurnAnew",
                "drawMakesTheTurnAnew", "drawnAsLaidOutNotAsSwapped");
        add("knotted = true;", "", "layOfWhatCannotBe", "layOf60Edges");
        add("if (layOut()) { return walks.count; }", "if (layOut()) { knotted = true; return walks.count; }",
                "layOfWhatCanBeMakesNoKnot");
    }

    private void turns() {
        add("rows[v] = new Row(MOST_VERTICES);", "rows[v] = new Row(18);", "turnOf19Neighbours");
        add("canBe(v) ? rows[v].get(i) : NONE;", "canBe(v) ? rows[v].get(Math.max(i, 0)) : NONE;",
                "turnBelowPlace0IsNone");
        add("canBe(v) ? rows[v].get(i) : NONE;", "canBe(v) ? rows[v].get(i < rows[v].size() ? i : 0) : NONE;",
                "turnBehindTheLastPlaceIsNone");
        add("canBe(v) ? rows[v].get(i) : NONE;", "rows[Math.max(0, Math.min(v, MOST_VERTICES - 1))].get(i);",
                "turnOfNoVertexIsNone");
        add("made.clear();", "", "turnOfALonelyOneIsNone", "layOfASecondGraph");
        add("turned ? turning.neighbour(v, i) : NONE", "turning.neighbour(v, i)", "turnWithoutOneIsNone");
        add("cells[k] = kept;", "", "swapOfTheFirstAndTheLast");
        add("if (i < 0 || i >= size || k < 0 || k >= size)", "if (i == k || i < 0 || i >= size || k < 0 || k >= size)",
                "swapOfAPlaceWithItself");
        add("if (i < 0 || i >= size || k < 0 || k >= size)", "if (i >= size || k >= size)", "swapBelowPlace0IsRefused");
        add("if (i < 0 || i >= size || k < 0 || k >= size)", "if (i < 0 || i > size || k < 0 || k > size)",
                "swapBehindTheLastPlaceIsRefused");
        add("return canBe(v) && rows[v].exchange(i, k);", "return !canBe(v) || rows[v].exchange(i, k);",
                "swapAroundNoVertexIsRefused");
        add("!turned || !turning.exchange(v, i, k)", "!turning.exchange(v, i, k)", "swapWithoutATurnIsRefused");
        add("!turning.exchange(v, i, k)) { return false; }",
                "!turning.exchange(v, i, k)) { turned = false; return false; }",
                "refusedSwapChangesNothing");
    }

    private void faces() {
        add("walks.find(net, turning); return true;", "return true;", "facesOfTheTurnAsItIs", "genusOfTheTurnAsItIs");
        add("turned ? walks.count : NONE", "walks.count", "facesWithoutATurnAreNone");
        add("rows[v].get(rows[v].placeBehind(place))", "rows[v].get(place + 1)", "theFirstFollowsTheLastAroundAVertex",
                "neighboursBetweenComeIntoTheRim");
        add("return (dart & 1) == 0 ?", "return (dart & 1) != 0 ?", "dartsAreNumberedFromTheLowerEnd");
        add("return place == NONE ? NONE :", "return place == NONE || rows[v].size() == 1 ? NONE :",
                "aDartTurnsBackAtASingleNeighbour");
        add("step < MOST_DARTS; step++) { if (dart < 0 || dart >= MOST_DARTS || faceOf",
                "step < 10; step++) { if (dart < 0 || dart >= MOST_DARTS || faceOf", "facesAreRingsOfDarts");
        add("for (int dart = 0; dart < 2 * net.edges && dart < MOST_DARTS; dart++) { if (faceOf",
                "for (int dart = 2 * net.edges - 1; dart >= 0; dart--) { if (faceOf", "facesBeginWithTheirLeastDarts");
        add("- net.lonely() - net.vertices", "- net.vertices", "genusOfLonelyOnesIs0");
        add("i < 0 || i >= MOST_DARTS || first == NONE", "i < 0 || i >= 30 || first == NONE", "faceOf38Darts",
                "facesHaveEachDartOnce");
        add("i < 0 || i >= MOST_DARTS || first == NONE", "i >= MOST_DARTS || first == NONE", "faceBelowDart0IsNone");
        add("if (dart == first) { return NONE; }", "", "faceBehindTheLastDartIsNone");
        add("int first = firsts.get(f);", "int first = firsts.get(Math.max(f, 0));", "faceBelow0IsNone");
        add("int first = firsts.get(f);", "int first = firsts.get(Math.min(f, firsts.size() - 1));",
                "faceBehindTheLastIsNone");
        add("first == NONE) { return NONE; }", "first == NONE) { return net.edges == 0 ? 0 : NONE; }",
                "faceWithoutEdgesIsNone");
        add("turned ? walks.beginning(net, f, i) : NONE", "walks.beginning(net, f, i)", "faceWithoutATurnIsNone");
        add("if (!turned) { return NONE; }", "", "genusWithoutATurnIsNone");
    }

    private void knots() {
        add("for (int e = 0; e < net.edges; e++) { out |= 1L << e;",
                "for (int e = 1; e < net.edges; e++) { out |= 1L << e;",
                "aKnotOfAllEdges", "knotOfFive", "knotOfThreeWithThree");
        add("for (int e = 0; e < net.edges; e++) { out |= 1L << e;",
                "for (int e = net.edges - 1; e >= 0; e--) { out |= 1L << e;", "theFirstEdgesAreLeftOutFirst",
                "knotsRise");
        add("out = 0L; edges.clear();", "edges.clear();", "aSecondKnotHasNothingOfTheFirst");
        add("out = 0L; edges.clear();", "out = 0L;", "aSecondKnotHasNothingOfTheFirst");
        add("branches.clear();", "", "aSecondKnotHasNothingOfTheFirst");
        add("{ out |= 1L << e;", "{ out |= 1 << e;", "layOf60Edges");
        add("trial.around(v)) >= 3", "trial.around(v)) >= 2", "branchesHaveThreeOrMore");
        add("trial.around(v)) >= 3", "trial.around(v)) >= 4", "branchesHaveThreeOrMore", "knotOfThreeWithThree");
        add("branches.size() == 5 ? 5 : 3", "5", "knotOfThreeWithThree");
        add("branches.size() == 5 ? 5 : 3", "3", "knotOfFive", "knotOf25Edges");
        add("Row edges = new Row(MOST_EDGES);", "Row edges = new Row(20);", "knotOf25Edges");
        add("switch (what) { case 0: return tangle", "switch (Math.max(what, 0)) { case 0: return tangle",
                "knotOfLessThan0IsNone");
        add("Math.max(what, 0) - KNOT_EDGES_FROM", "Math.max(Math.max(what, 0) - KNOT_EDGES_FROM, 0)",
                "knotOf3To99IsNone");
        add("Math.max(what, 0) - KNOT_EDGES_FROM",
                "Math.min(Math.max(what, 0) - KNOT_EDGES_FROM, tangle.edges.size() - 1)",
                "knotBehindTheLastEdgeIsNone");
        add("tangle.branches.get(what - KNOT_BRANCHES_FROM)",
                "tangle.branches.get(Math.min(what - KNOT_BRANCHES_FROM, tangle.branches.size() - 1))",
                "knotBehindTheLastBranchIsNone");
        add("if (!knotted) { return NONE; }", "", "knotWithoutOneIsNone");
    }

    private void mays() {
        add("return layout.lays(trial) ? 1 : 0;", "return 1;", "mayOfAFullGraph");
        add("return layout.lays(trial) ? 1 : 0;", "return 0;", "mayOfAFullGraph", "mayChangesNothing");
        add("trial.add(u, v); return", "net.add(u, v); trial.copy(net); return", "mayChangesNothing");
        add("layout.blocks.find(net); int twice", "int twice", "mayChangesNothing");
        add("|| !fits()) { return NONE; }", ") { return NONE; }", "mayOfWhatCannotBeIsNone");
        add("public int may(int u, int v) {",
                "public int may(int u, int v) { if (net.edges == MOST_EDGES) { return 0; }",
                "mayAt60IsNone");
    }

    private void fills() {
        add("if (came > 0) { forget();", "if (came > 0) {", "fillTakesAllAway");
        add("if (came > 0) { forget();", "if (came >= 0) { forget();", "fillThatBringsNothingTakesNothing");
        add("for (int u = 0; u < net.vertices; u++) { for (int v = u + 1; v < net.vertices; v++) {",
                "for (int v = 0; v < net.vertices; v++) { for (int u = 0; u < v; u++) {",
                "edgesComeFromTheLowestPairOn",
                "edgesComeBehindThoseThatAreThere");
        add("if (!layout.lays(net)) { net.remove(net.edges - 1); }", "", "noEdgeComesThatCannotBeLaidOut");
        add("return came;", "return net.vertices < 2 ? NONE : came;", "fillOfNone");
        add("return vertices >= 3 && edges == 3 * vertices - 6;", "return vertices >= 2 && edges == 3 * vertices - 6;",
                "fillOfTwoAndThree", "twoVerticesAreNotDrawn");
        add("int came = net.edges - before;", "int came = net.edges;", "fillOfAFullGraph");
        add("if (!fits()) { return NONE; }", "", "fillOfWhatCannotBeIsRefused", "fillOf60EdgesIsRefused");
    }

    private void draws() {
        add("return vertices >= 3 && edges == 3 * vertices - 6;", "return vertices > 3 && edges == 3 * vertices - 6;",
                "threeVerticesAreDrawn", "threeVerticesAreAll");
        add("return vertices >= 3 && edges == 3 * vertices - 6;", "return vertices >= 3 && edges >= 3 * vertices - 7;",
                "oneEdgeTooFewIsNotDrawn");
        add("if (!net.isFull() || !layOut()) {",
                "layOut(); if (net.vertices < 3 || net.edges < 3 * net.vertices - 6) {",
                "oneEdgeTooManyIsNotDrawn", "whatCannotBeLaidOutIsNotDrawn");
        add("drawn = true;", "drawn = true; turned = false;", "drawLaysOut", "drawMakesTheTurnAnew");
        add("if (!net.isFull() || !layOut()) {", "if (!layOut() || !net.isFull()) {", "refusedDrawLeavesTheTurn");
        add("!layOut()) { return false; }", "!layOut()) { knotted = false; return false; }",
                "refusedDrawLeavesTheKnot");
        add("put(order.get(0), 0, 0);", "", "drawOfASecondGraph");
        add("order.clear();", "", "drawOfASecondGraph");
        add("backwards.clear();", "", "drawOfASecondGraph");
        add("return drawing.order.find(v);", "return drawing.order.find(v) + 1;", "atTellsPlaces");
        add("if (!drawn || !net.hasVertex(v))", "if (!drawn)", "atOfLessThan0IsNone", "atOfVIsNone");
        add("if (!drawn || !net.hasVertex(v))", "if (!net.hasVertex(v))", "atWithoutADrawingIsNone");
        add("switch (what) { case 0: return drawing", "switch (Math.max(what, 0)) { case 0: return drawing",
                "atWhatOfLessThan0IsNone");
        add("switch (what) { case 0: return drawing", "switch (Math.min(what, 2)) { case 0: return drawing",
                "atWhatOf3IsNone");
    }

    private void orders() {
        add("findOrder(net, turning, net.low(0), net.high(0), c);", "findOrder(net, turning, 0, 1, c);",
                "theFirstFaceGivesTheFirstThree", "threeVerticesAreAll");
        add("order.addBackwards(backwards);", "order.addPart(backwards, 0, backwards.size());",
                "theOrderIsFoundFromTheLastPlaceOn");
        add("boolean free = (net.around(line.get(i)) & rim & ~nextTo) == 0;", "boolean free = true;",
                "theLeastThatIsFreeIsTaken");
        add("(found == NONE || line.get(i) < line.get(found))", "found == NONE", "theLeastOfThoseThatAreFreeIsTaken");
        add("between != end && between != NONE; step++", "(step == 0 || between != end) && between != NONE; step++",
                "noNeighbourBetween");
        add("step < MOST_VERTICES && between != end", "step < 10 && between != end", "seventeenNeighboursBetween");
        add("order.add(a); order.add(b);", "order.add(b); order.add(a);", "aIsTheFirstAndBTheSecond");
        add("startLine(a, c, b);", "startLine(b, c, a);", "theRimIsToldFromAToB");
    }

    private void places() {
        add("put(order.get(1), 2, 0);", "put(order.get(1), 1, 0);", "thePlacesOfTheFirstThree");
        add("move(below, 1);", "", "thePlacesOfTheFirstThree");
        add("move(carriedByLine(q, line.size()), 2);", "move(carriedByLine(q, q + 1), 2);", "noneBetweenPAndQ");
        add("(x[p] + x[q] + y[q] - y[p]) / 2", "(x[p] + x[q]) / 2", "aVertexStandsAboveItsNeighbours");
        add("(x[q] - x[p] + y[p] + y[q]) / 2", "(x[q] - x[p]) / 2", "aVertexStandsAboveItsNeighbours");
        add("carried[v] = below | bit(v);", "carried[v] = bit(v);", "whatIsCarriedGoesAlong");
        add("carried[v] = below | bit(v);", "carried[v] = below;", "whatIsCarriedGoesAlong");
    }

    private void colours() {
        add("here < ties", "here <= ties", "theLeastNumberOfLikeOnesIsTaken");
        add("Integer.bitCount(net.around(v) & left)", "Integer.bitCount(net.around(v))",
                "edgesToThoseThatAreLeftCount");
        add("for (int i = taken.size() - 1; i >= 0; i--)", "for (int i = 0; i < taken.size(); i++)",
                "theLatestGetsColour0");
        add("taken.clear();", "", "colourOfASecondGraph");
        add("int most = 0;", "int most = 1;", "colourOfNone");
        add("most = Math.max(most, colour + 1);", "most = Math.max(most, colour);", "colourOfLonelyOnes");
        add("return leastOf(~used);", "return Math.min(leastOf(~used), 5);", "colourOf11WithEachOther");
        add("coloured = true;", "coloured = true; knotted = false;", "colourOfWhatCannotBeLaidOut");
        add("for (int v = 0; v < net.vertices; v++) { left |= bit(v); }",
                "for (int v = 1; v < net.vertices; v++) { left |= bit(v); }", "colourOfTheFirstAndTheLast");
        add("coloured && net.hasVertex(v) ?", "coloured ?", "colourOfLessThan0IsNone", "colourOfVIsNone");
        add("coloured && net.hasVertex(v) ?", "net.hasVertex(v) ?", "colourOfWithoutColoursIsNone");
    }
}
