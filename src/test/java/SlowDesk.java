import java.util.ArrayDeque;
import java.util.ArrayList;
import java.util.Arrays;
import java.util.Collections;
import java.util.HashMap;
import java.util.HashSet;
import java.util.List;
import java.util.Map;
import java.util.Set;
import java.util.TreeMap;
import java.util.TreeSet;

/**
 * The document once more, as word for word as can be and with the whole library, to compare with.
 * It shares no code and, where there is a choice, no method with PlaneDesk.
 */
final class SlowDesk {
    static final int NONE = -1;

    int vertices = 0;
    List<int[]> edges = new ArrayList<>();
    List<List<Integer>> turn = null;
    List<Integer> knot = null;
    List<Integer> order = null;
    int[][] places = null;
    int[] colours = null;

    boolean graph(int n) {
        if (n < 0 || n > 20) {
            return false;
        }
        vertices = n;
        edges = new ArrayList<>();
        gone();
        return true;
    }

    private void gone() {
        turn = null;
        knot = null;
        order = null;
        places = null;
        colours = null;
    }

    private boolean vertex(int v) {
        return v >= 0 && v < vertices;
    }

    private boolean canJoin(int u, int v) {
        return vertex(u) && vertex(v) && u != v && number(edges, u, v) == NONE && edges.size() < 60;
    }

    private static int[] ends(int u, int v) {
        return new int[] {Math.min(u, v), Math.max(u, v)};
    }

    private static int number(List<int[]> of, int u, int v) {
        for (int e = 0; e < of.size(); e++) {
            if (Arrays.equals(of.get(e), ends(u, v))) {
                return e;
            }
        }
        return NONE;
    }

    int join(int u, int v) {
        if (!canJoin(u, v)) {
            return NONE;
        }
        edges.add(ends(u, v));
        gone();
        return edges.size() - 1;
    }

    boolean cut(int e) {
        if (e < 0 || e >= edges.size()) {
            return false;
        }
        edges.remove(e);
        gone();
        return true;
    }

    int edge(int e, int what) {
        if (e < 0 || e >= edges.size() || what < 0 || what > 2) {
            return NONE;
        }
        if (what < 2) {
            return edges.get(e)[what];
        }
        List<List<Integer>> blocks = blocks(edges);
        for (int b = 0; b < blocks.size(); b++) {
            if (blocks.get(b).contains(e)) {
                return b;
            }
        }
        throw new IllegalStateException("an edge without a block");
    }

    int about(int what) {
        switch (what) {
            case 0:
                return vertices;
            case 1:
                return edges.size();
            case 2:
                return components();
            case 3:
                return lonely();
            case 4:
                return blocks(edges).size();
            case 5:
                return layOut(edges) != null ? 1 : 0;
            default:
                return NONE;
        }
    }

    private int components() {
        Set<Set<Integer>> found = new HashSet<>();
        for (int v = 0; v < vertices; v++) {
            found.add(hanging(edges, v, Collections.emptySet()));
        }
        return found.size();
    }

    private int lonely() {
        int found = 0;
        for (int v = 0; v < vertices; v++) {
            if (neighbours(edges, v).isEmpty()) {
                found++;
            }
        }
        return found;
    }

    private static TreeSet<Integer> neighbours(List<int[]> of, int v) {
        TreeSet<Integer> found = new TreeSet<>();
        for (int[] e : of) {
            if (e[0] == v) {
                found.add(e[1]);
            } else if (e[1] == v) {
                found.add(e[0]);
            }
        }
        return found;
    }

    /** What hangs together with v when some vertices are away. */
    private static Set<Integer> hanging(List<int[]> of, int v, Set<Integer> away) {
        Set<Integer> found = new TreeSet<>();
        ArrayDeque<Integer> todo = new ArrayDeque<>();
        found.add(v);
        todo.add(v);
        while (!todo.isEmpty()) {
            for (int w : neighbours(of, todo.remove())) {
                if (!away.contains(w) && found.add(w)) {
                    todo.add(w);
                }
            }
        }
        return found;
    }

    /** Two edges at y are of one ring if their other ends hang together without y. */
    private static List<List<Integer>> blocks(List<int[]> of) {
        int[] label = new int[of.size()];
        for (int e = 0; e < label.length; e++) {
            label[e] = e;
        }
        for (int e = 0; e < label.length; e++) {
            for (int f = e + 1; f < label.length; f++) {
                if (label[e] != label[f] && ofOneRing(of, of.get(e), of.get(f))) {
                    int lost = label[f];
                    for (int g = 0; g < label.length; g++) {
                        label[g] = label[g] == lost ? label[e] : label[g];
                    }
                }
            }
        }
        Map<Integer, List<Integer>> byLabel = new HashMap<>();
        List<List<Integer>> found = new ArrayList<>();
        for (int e = 0; e < label.length; e++) {
            if (!byLabel.containsKey(label[e])) {
                byLabel.put(label[e], new ArrayList<>());
                found.add(byLabel.get(label[e]));
            }
            byLabel.get(label[e]).add(e);
        }
        return found;
    }

    private static boolean ofOneRing(List<int[]> of, int[] e, int[] f) {
        for (int i = 0; i < 2; i++) {
            for (int k = 0; k < 2; k++) {
                if (e[i] == f[k] && hanging(of, e[1 - i], Collections.singleton(e[i])).contains(f[1 - k])) {
                    return true;
                }
            }
        }
        return false;
    }

    /** The turn of vertices 0 .. 19 by these edges, or null. */
    private static List<List<Integer>> layOut(List<int[]> of) {
        List<List<Integer>> made = new ArrayList<>();
        for (int v = 0; v < 20; v++) {
            made.add(new ArrayList<>());
        }
        for (List<Integer> numbers : blocks(of)) {
            List<int[]> block = new ArrayList<>();
            for (int e : numbers) {
                block.add(of.get(e));
            }
            if (block.size() == 1) {
                made.get(block.get(0)[0]).add(block.get(0)[1]);
                made.get(block.get(0)[1]).add(block.get(0)[0]);
                continue;
            }
            List<List<Integer>> rings = rings(block);
            if (rings == null) {
                return null;
            }
            for (int y = 0; y < 20; y++) {
                TreeSet<Integer> near = neighbours(block, y);
                if (near.isEmpty()) {
                    continue;
                }
                int x = near.first();
                do {
                    made.get(y).add(x);
                    x = follower(rings, x, y);
                } while (x != near.first());
            }
        }
        return made;
    }

    private static int follower(List<List<Integer>> rings, int x, int y) {
        for (List<Integer> ring : rings) {
            for (int i = 0; i < ring.size(); i++) {
                if (ring.get(i) == x && ring.get((i + 1) % ring.size()) == y) {
                    return ring.get((i + 2) % ring.size());
                }
            }
        }
        throw new IllegalStateException("no ring goes that way");
    }

    private static boolean laidEdge(List<List<Integer>> rings, int[] e) {
        for (List<Integer> ring : rings) {
            for (int i = 0; i < ring.size(); i++) {
                if (Arrays.equals(e, ends(ring.get(i), ring.get((i + 1) % ring.size())))) {
                    return true;
                }
            }
        }
        return false;
    }

    private static List<List<Integer>> rings(List<int[]> block) {
        int low = block.get(0)[0];
        int high = block.get(0)[1];
        List<int[]> without = block.subList(1, block.size());
        List<Integer> way = way(without, high, Collections.singleton(low));
        List<Integer> first = new ArrayList<>();
        first.add(low);
        first.addAll(way.subList(0, way.size() - 1));
        List<Integer> second = new ArrayList<>(first.subList(1, first.size()));
        Collections.reverse(second);
        second.add(0, low);
        List<List<Integer>> rings = new ArrayList<>();
        rings.add(first);
        rings.add(second);
        while (true) {
            TreeMap<Integer, List<int[]>> parts = parts(block, rings);
            if (parts.isEmpty()) {
                return rings;
            }
            if (!layOne(rings, parts)) {
                return null;
            }
        }
    }

    private static Set<Integer> laidVertices(List<List<Integer>> rings) {
        Set<Integer> laid = new TreeSet<>();
        for (List<Integer> ring : rings) {
            laid.addAll(ring);
        }
        return laid;
    }

    /** The edges of each part, by its least edge. */
    private static TreeMap<Integer, List<int[]>> parts(List<int[]> block, List<List<Integer>> rings) {
        Set<Integer> laid = laidVertices(rings);
        TreeMap<Integer, List<int[]>> parts = new TreeMap<>();
        Map<Set<Integer>, List<int[]>> bySet = new HashMap<>();
        for (int i = 0; i < block.size(); i++) {
            int[] e = block.get(i);
            if (laid.contains(e[0]) && laid.contains(e[1])) {
                if (!laidEdge(rings, e)) {
                    parts.put(i, List.of(e));
                }
                continue;
            }
            Set<Integer> set = hanging(block, laid.contains(e[0]) ? e[1] : e[0], laid);
            if (!bySet.containsKey(set)) {
                bySet.put(set, new ArrayList<>());
                parts.put(i, bySet.get(set));
            }
            bySet.get(set).add(e);
        }
        return parts;
    }

    private static boolean layOne(List<List<Integer>> rings, TreeMap<Integer, List<int[]>> parts) {
        Set<Integer> laid = laidVertices(rings);
        List<int[]> taken = null;
        List<int[]> alone = null;
        for (List<int[]> part : parts.values()) {
            int fits = fitting(rings, feet(part, laid)).size();
            if (fits == 0) {
                return false;
            }
            if (taken == null) {
                taken = part;
            }
            if (alone == null && fits == 1) {
                alone = part;
            }
        }
        if (alone != null) {
            taken = alone;
        }
        TreeSet<Integer> feet = feet(taken, laid);
        int at = fitting(rings, feet).get(0);
        int a = feet.first();
        List<Integer> way = way(taken, a, feet.tailSet(a, false));
        int b = way.get(way.size() - 1);
        List<Integer> ring = rings.get(at);
        List<Integer> inner = new ArrayList<>(way.subList(1, way.size() - 1));
        List<Integer> second = arc(ring, b, a);
        second.addAll(inner);
        Collections.reverse(inner);
        List<Integer> first = arc(ring, a, b);
        first.addAll(inner);
        rings.set(at, first);
        rings.add(second);
        return true;
    }

    private static List<Integer> arc(List<Integer> ring, int from, int to) {
        List<Integer> turned = new ArrayList<>(ring);
        Collections.rotate(turned, -ring.indexOf(from));
        return new ArrayList<>(turned.subList(0, turned.indexOf(to) + 1));
    }

    private static TreeSet<Integer> feet(List<int[]> part, Set<Integer> laid) {
        TreeSet<Integer> feet = new TreeSet<>();
        for (int[] e : part) {
            feet.add(e[0]);
            feet.add(e[1]);
        }
        feet.retainAll(laid);
        return feet;
    }

    private static List<Integer> fitting(List<List<Integer>> rings, Set<Integer> feet) {
        List<Integer> found = new ArrayList<>();
        for (int r = 0; r < rings.size(); r++) {
            if (rings.get(r).containsAll(feet)) {
                found.add(r);
            }
        }
        return found;
    }

    /** Breadth first from one vertex to the first of the goals; goals are not gone through. */
    private static List<Integer> way(List<int[]> of, int from, Set<Integer> goals) {
        Map<Integer, Integer> cameFrom = new HashMap<>();
        ArrayDeque<Integer> todo = new ArrayDeque<>();
        cameFrom.put(from, NONE);
        todo.add(from);
        while (true) {
            int x = todo.remove();
            if (goals.contains(x)) {
                List<Integer> way = new ArrayList<>();
                for (int v = x; v != NONE; v = cameFrom.get(v)) {
                    way.add(0, v);
                }
                return way;
            }
            for (int y : neighbours(of, x)) {
                if (!cameFrom.containsKey(y)) {
                    cameFrom.put(y, x);
                    todo.add(y);
                }
            }
        }
    }

    int lay() {
        List<List<Integer>> made = layOut(edges);
        if (made != null) {
            turn = made;
            return faces();
        }
        knot = new ArrayList<>();
        for (int e = 0; e < edges.size(); e++) {
            knot.add(e);
        }
        for (int e = 0; e < edges.size(); e++) {
            List<Integer> others = new ArrayList<>(knot);
            others.remove(Integer.valueOf(e));
            if (layOut(chosen(others)) == null) {
                knot = others;
            }
        }
        return NONE;
    }

    private List<int[]> chosen(List<Integer> numbers) {
        List<int[]> found = new ArrayList<>();
        for (int e : numbers) {
            found.add(edges.get(e));
        }
        return found;
    }

    int turn(int v, int i) {
        if (turn == null || !vertex(v) || i < 0 || i >= turn.get(v).size()) {
            return NONE;
        }
        return turn.get(v).get(i);
    }

    boolean swap(int v, int i, int k) {
        if (turn(v, i) == NONE || turn(v, k) == NONE) {
            return false;
        }
        Collections.swap(turn.get(v), i, k);
        return true;
    }

    private List<List<Integer>> faceList() {
        List<List<Integer>> found = new ArrayList<>();
        Set<Integer> gone = new HashSet<>();
        for (int first = 0; first < 2 * edges.size(); first++) {
            if (gone.contains(first)) {
                continue;
            }
            List<Integer> face = new ArrayList<>();
            int dart = first;
            do {
                gone.add(dart);
                int x = edges.get(dart / 2)[dart % 2];
                int y = edges.get(dart / 2)[1 - dart % 2];
                face.add(x);
                List<Integer> around = turn.get(y);
                int z = around.get((around.indexOf(x) + 1) % around.size());
                dart = 2 * number(edges, y, z) + (y < z ? 0 : 1);
            } while (dart != first);
            found.add(face);
        }
        return found;
    }

    int faces() {
        return turn == null ? NONE : faceList().size();
    }

    int face(int f, int i) {
        if (turn == null || f < 0 || f >= faces() || i < 0 || i >= faceList().get(f).size()) {
            return NONE;
        }
        return faceList().get(f).get(i);
    }

    int genus() {
        return turn == null ? NONE : (2 * components() - lonely() - vertices + edges.size() - faces()) / 2;
    }

    int knot(int what) {
        if (knot == null) {
            return NONE;
        }
        List<Integer> branches = new ArrayList<>();
        for (int v = 0; v < vertices; v++) {
            if (neighbours(chosen(knot), v).size() >= 3) {
                branches.add(v);
            }
        }
        if (what == 0) {
            return knot.size();
        }
        if (what == 1) {
            return neighbours(chosen(knot), branches.get(0)).size() == 4 ? 5 : 3;
        }
        if (what == 2) {
            return branches.size();
        }
        if (what >= 100 && what < 100 + knot.size()) {
            return knot.get(what - 100);
        }
        if (what >= 200 && what < 200 + branches.size()) {
            return branches.get(what - 200);
        }
        return NONE;
    }

    private List<int[]> with(int u, int v) {
        List<int[]> more = new ArrayList<>(edges);
        more.add(ends(u, v));
        return more;
    }

    int may(int u, int v) {
        if (!canJoin(u, v) || layOut(edges) == null) {
            return NONE;
        }
        return layOut(with(u, v)) != null ? 1 : 0;
    }

    int fill() {
        if (layOut(edges) == null) {
            return NONE;
        }
        int came = 0;
        for (int u = 0; u < vertices; u++) {
            for (int v = u + 1; v < vertices; v++) {
                if (number(edges, u, v) == NONE && layOut(with(u, v)) != null) {
                    edges.add(ends(u, v));
                    came++;
                    gone();
                }
            }
        }
        return came;
    }

    boolean draw() {
        if (vertices < 3 || edges.size() != 3 * vertices - 6 || layOut(edges) == null) {
            return false;
        }
        turn = layOut(edges);
        List<Integer> face = faceList().get(0);
        findOrder(face.get(0), face.get(1), face.get(2));
        findPlaces();
        return true;
    }

    private void findOrder(int a, int b, int c) {
        List<Integer> rim = new ArrayList<>(List.of(a, c, b));
        order = new ArrayList<>();
        for (int place = vertices - 1; place >= 2; place--) {
            int v = leastFree(rim);
            order.add(0, v);
            int at = rim.indexOf(v);
            List<Integer> around = new ArrayList<>(turn.get(v));
            Collections.rotate(around, -around.indexOf(rim.get(at - 1)));
            List<Integer> between = around.subList(1, around.indexOf(rim.get(at + 1)));
            rim.remove(at);
            rim.addAll(at, between);
        }
        order.add(0, b);
        order.add(0, a);
    }

    private int leastFree(List<Integer> rim) {
        for (int v : new TreeSet<>(rim.subList(1, rim.size() - 1))) {
            Set<Integer> tied = neighbours(edges, v);
            tied.retainAll(rim);
            tied.remove(rim.get(rim.indexOf(v) - 1));
            tied.remove(rim.get(rim.indexOf(v) + 1));
            if (tied.isEmpty()) {
                return v;
            }
        }
        throw new IllegalStateException("no vertex of the rim is free");
    }

    private void findPlaces() {
        places = new int[vertices][2];
        int a = order.get(0);
        int b = order.get(1);
        int third = order.get(2);
        places[b][0] = 2;
        places[third][0] = 1;
        places[third][1] = 1;
        List<Integer> crest = new ArrayList<>(List.of(a, third, b));
        Map<Integer, List<Integer>> carried = new HashMap<>();
        for (int v = 0; v < vertices; v++) {
            carried.put(v, new ArrayList<>(List.of(v)));
        }
        for (int v : order.subList(3, vertices)) {
            List<Integer> near = new ArrayList<>(crest);
            near.retainAll(neighbours(edges, v));
            int from = crest.indexOf(near.get(0));
            int to = crest.indexOf(near.get(near.size() - 1));
            if (near.size() != to - from + 1) {
                throw new IllegalStateException("neighbours on the crest with a gap");
            }
            List<Integer> between = crest.subList(from + 1, to);
            for (int w : between) {
                for (int moved : carried.get(w)) {
                    places[moved][0] += 1;
                }
                carried.get(v).addAll(carried.get(w));
            }
            for (int w : crest.subList(to, crest.size())) {
                for (int moved : carried.get(w)) {
                    places[moved][0] += 2;
                }
            }
            int[] p = places[crest.get(from)];
            int[] q = places[crest.get(to)];
            places[v][0] = (p[0] + q[0] + q[1] - p[1]) / 2;
            places[v][1] = (q[0] - p[0] + p[1] + q[1]) / 2;
            between.clear();
            crest.add(from + 1, v);
        }
    }

    int at(int v, int what) {
        if (places == null || !vertex(v) || what < 0 || what > 2) {
            return NONE;
        }
        return what == 2 ? order.indexOf(v) : places[v][what];
    }

    int colour() {
        List<Integer> left = new ArrayList<>();
        for (int v = 0; v < vertices; v++) {
            left.add(v);
        }
        ArrayDeque<Integer> taken = new ArrayDeque<>();
        while (!left.isEmpty()) {
            Integer best = null;
            int least = Integer.MAX_VALUE;
            for (Integer v : left) {
                Set<Integer> ties = neighbours(edges, v);
                ties.retainAll(left);
                if (ties.size() < least) {
                    least = ties.size();
                    best = v;
                }
            }
            left.remove(best);
            taken.push(best);
        }
        colours = new int[vertices];
        Arrays.fill(colours, NONE);
        int most = 0;
        while (!taken.isEmpty()) {
            int v = taken.pop();
            Set<Integer> used = new HashSet<>();
            for (int w : neighbours(edges, v)) {
                used.add(colours[w]);
            }
            int colour = 0;
            while (used.contains(colour)) {
                colour++;
            }
            colours[v] = colour;
            most = Math.max(most, colour + 1);
        }
        return most;
    }

    int colourOf(int v) {
        return colours == null || !vertex(v) ? NONE : colours[v];
    }
}
