import java.util.ArrayList;
import java.util.Arrays;
import java.util.Collections;
import java.util.HashSet;
import java.util.List;
import java.util.Random;
import java.util.Set;
import java.util.TreeMap;
import java.util.TreeSet;

/** What a right answer must look like, whoever found it. */
public final class ShapesTest {
    private static int wrong = 0;
    private static int looked = 0;

    private static void must(String what, boolean holds) {
        looked++;
        if (!holds) {
            wrong++;
            if (wrong < 30) {
                System.out.println("does not hold: " + what);
            }
        }
    }

    public static void main(String[] args) {
        Random random = new Random(7);
        for (int i = 0; i < 40; i++) {
            known("tetrahedron", random, 4, true, 4, complete(4));
            known("five with each other", random, 5, false, 0, complete(5));
            known("ten with each other", random, 10, false, 0, complete(10));
            known("three with three", random, 6, false, 0, between(3, 3));
            known("two with eighteen", random, 20, true, 18, between(2, 18));
            known("cube", random, 8, true, 6, cube(3));
            known("cube of four ways", random, 16, false, 0, cube(4));
            known("Petersen's graph", random, 10, false, 0, petersen(5, 2));
            known("dodecahedron", random, 20, true, 12, petersen(10, 2));
            known("Desargues' graph", random, 20, false, 0, petersen(10, 3));
            known("prism", random, 18, true, 11, petersen(9, 1));
            known("grid", random, 20, true, 13, grid(4, 5, false));
            known("grid around a tube", random, 20, true, 17, grid(4, 5, true));
            known("wheel", random, 20, true, 20, wheel(19));
            known("octahedron", random, 6, true, 8, octahedron());
        }
        for (int i = 0; i < 600; i++) {
            int n = random.nextInt(21);
            PlaneDesk desk = new PlaneDesk();
            desk.graph(n);
            int most = n < 2 ? 0 : random.nextInt(3 * n + 1);
            for (int k = 0; k < most; k++) {
                desk.join(random.nextInt(n), random.nextInt(n));
            }
            check("random graph " + i, desk);
        }
        System.out.println(looked + " things looked at, " + wrong + " do not hold");
        if (wrong != 0) {
            System.exit(1);
        }
    }

    private static List<int[]> complete(int n) {
        List<int[]> edges = new ArrayList<>();
        for (int u = 0; u < n; u++) {
            for (int v = u + 1; v < n; v++) {
                edges.add(new int[] {u, v});
            }
        }
        return edges;
    }

    private static List<int[]> between(int a, int b) {
        List<int[]> edges = new ArrayList<>();
        for (int u = 0; u < a; u++) {
            for (int v = 0; v < b; v++) {
                edges.add(new int[] {u, a + v});
            }
        }
        return edges;
    }

    private static List<int[]> cube(int ways) {
        List<int[]> edges = new ArrayList<>();
        for (int u = 0; u < 1 << ways; u++) {
            for (int w = 0; w < ways; w++) {
                if ((u >> w & 1) == 0) {
                    edges.add(new int[] {u, u | 1 << w});
                }
            }
        }
        return edges;
    }

    private static List<int[]> petersen(int n, int step) {
        List<int[]> edges = new ArrayList<>();
        for (int i = 0; i < n; i++) {
            edges.add(new int[] {i, (i + 1) % n});
            edges.add(new int[] {i, n + i});
            edges.add(new int[] {n + i, n + (i + step) % n});
        }
        return edges;
    }

    private static List<int[]> grid(int high, int wide, boolean around) {
        List<int[]> edges = new ArrayList<>();
        for (int r = 0; r < high; r++) {
            for (int c = 0; c < wide; c++) {
                if (c + 1 < wide || around) {
                    edges.add(new int[] {r * wide + c, r * wide + (c + 1) % wide});
                }
                if (r + 1 < high) {
                    edges.add(new int[] {r * wide + c, (r + 1) * wide + c});
                }
            }
        }
        return edges;
    }

    private static List<int[]> wheel(int n) {
        List<int[]> edges = new ArrayList<>();
        for (int i = 0; i < n; i++) {
            edges.add(new int[] {i, (i + 1) % n});
            edges.add(new int[] {i, n});
        }
        return edges;
    }

    private static List<int[]> octahedron() {
        List<int[]> edges = complete(6);
        edges.removeIf(e -> e[0] + e[1] == 5);
        return edges;
    }

    private static void known(String name, Random random, int n, boolean fits, int faces, List<int[]> edges) {
        List<Integer> names = new ArrayList<>();
        for (int v = 0; v < n; v++) {
            names.add(v);
        }
        Collections.shuffle(names, random);
        List<int[]> mixed = new ArrayList<>(edges);
        Collections.shuffle(mixed, random);
        PlaneDesk desk = new PlaneDesk();
        desk.graph(n);
        for (int[] e : mixed) {
            desk.join(names.get(e[0]), names.get(e[1]));
        }
        must(name + " has its edges", desk.about(1) == edges.size());
        must(name + " can be laid out: " + fits, desk.about(5) == (fits ? 1 : 0));
        must(name + " has its faces", desk.lay() == (fits ? faces : PlaneDesk.NONE));
        check(name, desk);
    }

    private static boolean[][] joined(PlaneDesk desk) {
        boolean[][] joined = new boolean[20][20];
        for (int e = 0; e < desk.about(1); e++) {
            joined[desk.edge(e, 0)][desk.edge(e, 1)] = true;
            joined[desk.edge(e, 1)][desk.edge(e, 0)] = true;
        }
        return joined;
    }

    private static void check(String name, PlaneDesk desk) {
        checkColours(name, desk);
        if (desk.lay() == PlaneDesk.NONE) {
            checkKnot(name, desk);
            return;
        }
        checkTurn(name, desk);
        int before = desk.about(1);
        int came = desk.fill();
        must(name + " counts what came", desk.about(1) == before + came);
        checkFull(name, desk);
        if (desk.about(0) >= 3) {
            must(name + " can be drawn when full", desk.draw());
            checkTurn(name, desk);
            checkDrawing(name, desk);
        }
        must(name + " full is coloured by six colours at most", desk.colour() <= 6);
    }

    private static void checkColours(String name, PlaneDesk desk) {
        int count = desk.colour();
        Set<Integer> used = new TreeSet<>();
        for (int v = 0; v < desk.about(0); v++) {
            used.add(desk.colourOf(v));
        }
        must(name + " uses as many colours as it says", used.size() == count && !used.contains(PlaneDesk.NONE));
        for (int e = 0; e < desk.about(1); e++) {
            must(name + " has ends of other colours", desk.colourOf(desk.edge(e, 0)) != desk.colourOf(desk.edge(e, 1)));
        }
    }

    private static void checkTurn(String name, PlaneDesk desk) {
        boolean[][] joined = joined(desk);
        for (int v = 0; v < desk.about(0); v++) {
            Set<Integer> around = new TreeSet<>();
            int count = 0;
            while (desk.turn(v, count) != PlaneDesk.NONE) {
                around.add(desk.turn(v, count));
                count++;
            }
            Set<Integer> want = new TreeSet<>();
            for (int w = 0; w < 20; w++) {
                if (joined[v][w]) {
                    want.add(w);
                }
            }
            must(name + " turns each neighbour once", around.equals(want) && count == want.size());
        }
        must(name + " has no crossing", desk.genus() == 0);
        int darts = 0;
        for (int f = 0; f < desk.faces(); f++) {
            int size = 0;
            while (desk.face(f, size) != PlaneDesk.NONE) {
                size++;
            }
            must(name + " has faces of two darts at least", size >= 2);
            darts += size;
        }
        must(name + " has each dart once", darts == 2 * desk.about(1));
    }

    /** Goes from branch to branch along the knot; the ways must be those of K5 or K3,3. */
    private static void checkKnot(String name, PlaneDesk desk) {
        TreeMap<Integer, List<Integer>> near = new TreeMap<>();
        int last = -1;
        for (int i = 0; i < desk.knot(0); i++) {
            int e = desk.knot(100 + i);
            must(name + " has a rising knot", e > last);
            last = e;
            for (int end = 0; end < 2; end++) {
                near.computeIfAbsent(desk.edge(e, end), k -> new ArrayList<>()).add(desk.edge(e, 1 - end));
            }
        }
        Set<Integer> branches = new TreeSet<>();
        for (int i = 0; i < desk.knot(2); i++) {
            branches.add(desk.knot(200 + i));
        }
        int sort = desk.knot(1);
        must(name + " has as many branches as its sort", branches.size() == (sort == 5 ? 5 : 6));
        Set<List<Integer>> ways = new HashSet<>();
        Set<Integer> seen = new HashSet<>(branches);
        for (int v : near.keySet()) {
            must(name + " has a knot of right degrees",
                    near.get(v).size() == (branches.contains(v) ? sort == 5 ? 4 : 3 : 2));
        }
        for (int b : branches) {
            for (int first : near.get(b)) {
                int from = b;
                int at = first;
                while (!branches.contains(at)) {
                    seen.add(at);
                    List<Integer> two = near.get(at);
                    int next = two.get(0) == from ? two.get(1) : two.get(0);
                    from = at;
                    at = next;
                }
                ways.add(Arrays.asList(b, at));
                must(name + " has a knot without loops", b != at);
            }
        }
        must(name + " has nothing beside its knot", seen.equals(near.keySet()));
        must(name + " has all ways", ways.size() == (sort == 5 ? 20 : 18));
        if (sort == 3) {
            int b = branches.iterator().next();
            Set<Integer> side = new TreeSet<>();
            for (int c : branches) {
                if (!ways.contains(Arrays.asList(b, c))) {
                    side.add(c);
                }
            }
            must(name + " has two sides of three", side.size() == 3);
            for (List<Integer> way : ways) {
                must(name + " has ways from side to side", side.contains(way.get(0)) != side.contains(way.get(1)));
            }
        }
    }

    private static void checkFull(String name, PlaneDesk desk) {
        int n = desk.about(0);
        must(name + " is full", desk.about(1) == (n >= 3 ? 3 * n - 6 : n == 2 ? 1 : 0));
        must(name + " can be laid out when full", desk.about(5) == 1);
        boolean[][] joined = joined(desk);
        for (int u = 0; u < n; u++) {
            for (int v = u + 1; v < n; v++) {
                must(name + " takes no edge more", desk.may(u, v) == (joined[u][v] ? PlaneDesk.NONE : 0));
            }
        }
        must(name + " is not filled twice", desk.fill() == 0);
    }

    private static void checkDrawing(String name, PlaneDesk desk) {
        int n = desk.about(0);
        Set<Integer> order = new TreeSet<>();
        for (int v = 0; v < n; v++) {
            order.add(desk.at(v, 2));
            must(name + " has small places",
                    desk.at(v, 0) >= 0 && desk.at(v, 0) <= 2 * n - 4 && desk.at(v, 1) >= 0 && desk.at(v, 1) <= n - 2);
        }
        must(name + " has an order of all", order.size() == n && order.contains(0) && order.contains(n - 1));
        for (int e = 0; e < desk.about(1); e++) {
            for (int f = e + 1; f < desk.about(1); f++) {
                must(name + " has lines that don't cross", !meet(desk, e, f));
            }
        }
    }

    private static long side(PlaneDesk desk, int a, int b, int c) {
        long x1 = desk.at(b, 0) - desk.at(a, 0);
        long y1 = desk.at(b, 1) - desk.at(a, 1);
        long x2 = desk.at(c, 0) - desk.at(a, 0);
        long y2 = desk.at(c, 1) - desk.at(a, 1);
        return Long.signum(x1 * y2 - x2 * y1);
    }

    private static boolean between(PlaneDesk desk, int a, int b, int c) {
        return Math.min(desk.at(a, 0), desk.at(b, 0)) <= desk.at(c, 0)
                && desk.at(c, 0) <= Math.max(desk.at(a, 0), desk.at(b, 0))
                && Math.min(desk.at(a, 1), desk.at(b, 1)) <= desk.at(c, 1)
                && desk.at(c, 1) <= Math.max(desk.at(a, 1), desk.at(b, 1));
    }

    private static boolean touches(PlaneDesk desk, int a, int b, int c) {
        return c != a && c != b && side(desk, a, b, c) == 0 && between(desk, a, b, c);
    }

    /** Whether two edges have a point in common that is not an end of both. */
    private static boolean meet(PlaneDesk desk, int e, int f) {
        int a = desk.edge(e, 0);
        int b = desk.edge(e, 1);
        int c = desk.edge(f, 0);
        int d = desk.edge(f, 1);
        if (touches(desk, a, b, c) || touches(desk, a, b, d) || touches(desk, c, d, a) || touches(desk, c, d, b)) {
            return true;
        }
        if (a == c || a == d || b == c || b == d) {
            return false;
        }
        return side(desk, a, b, c) * side(desk, a, b, d) < 0 && side(desk, c, d, a) * side(desk, c, d, b) < 0;
    }
}
