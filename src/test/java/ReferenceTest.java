import java.util.ArrayList;
import java.util.List;
import java.util.Random;

/** Random runs of calls, the same on PlaneDesk and on SlowDesk: all answers must be alike. */
public final class ReferenceTest {
    private static int wrong = 0;
    private static long compared = 0;

    private final PlaneDesk desk = new PlaneDesk();
    private final SlowDesk slow = new SlowDesk();
    private final List<String> calls = new ArrayList<>();
    private final int run;
    private final Random random;

    private ReferenceTest(int run) {
        this.run = run;
        this.random = new Random(run);
    }

    public static void main(String[] args) {
        for (int run = 0; run < 1500; run++) {
            new ReferenceTest(run).go();
        }
        System.out.println(compared + " answers compared, " + wrong + " wrong");
        if (wrong != 0) {
            System.exit(1);
        }
    }

    private int same(String call, int got, int want) {
        compared++;
        calls.add(call);
        if (got != want) {
            wrong++;
            System.out.println("run " + run + ": " + call + " answered " + got + ", due is " + want);
            if (wrong <= 3) {
                System.out.println("  behind " + calls);
            }
        }
        return want;
    }

    private int same(String call, boolean got, boolean want) {
        return same(call, got ? 1 : 0, want ? 1 : 0);
    }

    private void go() {
        begin(random.nextInt(21));
        int kind = random.nextInt(6);
        if (kind == 0) {
            joinRandomly(random.nextInt(62));
        } else if (kind == 1) {
            joinPlainly(random.nextInt(70));
        } else if (kind == 2) {
            joinPlainly(random.nextInt(70));
            joinRandomly(1 + random.nextInt(2));
        } else if (kind == 3) {
            joinPlainly(200);
            cutSome(random.nextInt(8));
        } else if (kind == 4) {
            joinRandomly(random.nextInt(30));
        } else {
            joinTree();
            joinRandomly(random.nextInt(6));
        }
        lookAtAll();
        for (int i = 0; i < 12; i++) {
            act();
            if (random.nextInt(3) == 0) {
                lookAtAll();
            }
        }
        lookAtAll();
    }

    private void begin(int n) {
        same("graph(" + n + ")", desk.graph(n), slow.graph(n));
    }

    private int anyVertex() {
        return random.nextInt(12) == 0 ? random.nextInt(26) - 3 : random.nextInt(Math.max(1, slow.vertices));
    }

    private void joinRandomly(int tries) {
        for (int i = 0; i < tries; i++) {
            int u = anyVertex();
            int v = anyVertex();
            same("join(" + u + ", " + v + ")", desk.join(u, v), slow.join(u, v));
        }
    }

    /** Joins only what may be joined. */
    private void joinPlainly(int tries) {
        for (int i = 0; i < tries; i++) {
            int u = anyVertex();
            int v = anyVertex();
            if (desk.may(u, v) == 1) {
                same("join(" + u + ", " + v + ")", desk.join(u, v), slow.join(u, v));
            }
        }
    }

    private void joinTree() {
        for (int v = 1; v < slow.vertices; v++) {
            int u = random.nextInt(v);
            same("join(" + v + ", " + u + ")", desk.join(v, u), slow.join(v, u));
        }
    }

    private void cutSome(int often) {
        for (int i = 0; i < often; i++) {
            int e = random.nextInt(62) - 1;
            same("cut(" + e + ")", desk.cut(e), slow.cut(e));
        }
    }

    private void act() {
        int u = anyVertex();
        int v = anyVertex();
        switch (random.nextInt(12)) {
            case 0:
                same("join(" + u + ", " + v + ")", desk.join(u, v), slow.join(u, v));
                break;
            case 1:
                cutSome(1);
                break;
            case 2:
            case 3:
                same("lay()", desk.lay(), slow.lay());
                break;
            case 4:
            case 5:
            case 6:
                int i = random.nextInt(5) - 1;
                int k = random.nextInt(5) - 1;
                same("swap(" + v + ", " + i + ", " + k + ")", desk.swap(v, i, k), slow.swap(v, i, k));
                break;
            case 7:
                if (random.nextInt(3) == 0) {
                    same("fill()", desk.fill(), slow.fill());
                }
                break;
            case 8:
                same("draw()", desk.draw(), slow.draw());
                break;
            case 9:
                same("colour()", desk.colour(), slow.colour());
                break;
            case 10:
                if (random.nextInt(10) == 0) {
                    begin(random.nextInt(24) - 2);
                }
                break;
            default:
                same("may(" + u + ", " + v + ")", desk.may(u, v), slow.may(u, v));
                break;
        }
    }

    private void lookAtAll() {
        for (int what = -1; what <= 6; what++) {
            same("about(" + what + ")", desk.about(what), slow.about(what));
        }
        for (int e = -1; e <= slow.edges.size(); e++) {
            int what = random.nextInt(5) - 1;
            same("edge(" + e + ", " + what + ")", desk.edge(e, what), slow.edge(e, what));
        }
        for (int v = -1; v <= slow.vertices; v++) {
            lookAt(v);
        }
        same("faces()", desk.faces(), slow.faces());
        same("genus()", desk.genus(), slow.genus());
        for (int f = -1; f <= Math.max(0, slow.faces()); f++) {
            for (int i = -1; i < 8; i++) {
                same("face(" + f + ", " + i + ")", desk.face(f, i), slow.face(f, i));
            }
            int far = random.nextInt(130);
            same("face(" + f + ", " + far + ")", desk.face(f, far), slow.face(f, far));
        }
        for (int what = -2; what < 270; what += what < 8 || what > 95 && what < 215 ? 1 : 7) {
            same("knot(" + what + ")", desk.knot(what), slow.knot(what));
        }
    }

    private void lookAt(int v) {
        for (int i = -1; i <= 19; i++) {
            same("turn(" + v + ", " + i + ")", desk.turn(v, i), slow.turn(v, i));
        }
        for (int what = -1; what <= 3; what++) {
            same("at(" + v + ", " + what + ")", desk.at(v, what), slow.at(v, what));
        }
        same("colourOf(" + v + ")", desk.colourOf(v), slow.colourOf(v));
    }
}
