import java.util.ArrayList;
import java.util.List;

// Long runs of calls on SwitchNet and on a model beside it that goes by the document's words:
// it lists every way, weighs each by itself and asks of each whether it is open.
public final class ModelTest {
    private static final int RUNS = 600;
    private static final int CALLS = 512;

    private static int wrong = 0;
    // A fixed sequence, so that every run of the test is the same.
    private static long seed = 20261116L;

    private static int draw(int below) {
        seed = seed * 6364136223846793005L + 1442695040888963407L;
        return (int) ((seed >>> 33) % below);
    }

    private static final class Switch {
        final int a;
        final int b;
        final int kind;
        final int gate;
        final int strength;

        Switch(int a, int b, int what) {
            this.a = a;
            this.b = b;
            kind = what % 3;
            gate = what / 3 % 3 + 2;
            strength = what / 9 + 4;
        }
    }

    private static final class Model {
        final Switch[] there = new Switch[12];
        int[] held = {0, 1, 0, 0, 0, 2, 2, 2, 2, 2, 2};
        final int[] size = {7, 7, 7, 7, 7, 1, 1, 1, 1, 1, 1};

        boolean node(int n) {
            return n >= 0 && n <= 10;
        }

        boolean store(int n) {
            return n >= 5 && n <= 10;
        }

        boolean isClosed(Switch s) {
            return s != null && (s.kind == 2 || s.kind == 0 && held[s.gate] == 1 || s.kind == 1 && held[s.gate] == 0);
        }

        int strongest(int a, int b) {
            int most = 0;
            for (Switch s : there) {
                if (isClosed(s) && (s.a == a && s.b == b || s.a == b && s.b == a)) {
                    most = Math.max(most, s.strength);
                }
            }
            return most;
        }

        List<int[]> ways() {
            int[][] joined = new int[11][11];
            for (int a = 0; a < 11; a++) {
                for (int b = 0; b < 11; b++) {
                    joined[a][b] = strongest(a, b);
                }
            }
            List<int[]> all = new ArrayList<>();
            for (int n = 0; n < 11; n++) {
                all.add(new int[] {n});
            }
            for (int i = 0; i < all.size(); i++) {
                int[] way = all.get(i);
                for (int next = 5; next < 11; next++) {
                    if (joined[way[way.length - 1]][next] > 0 && !contains(way, next)) {
                        int[] longer = java.util.Arrays.copyOf(way, way.length + 1);
                        longer[way.length] = next;
                        all.add(longer);
                    }
                }
            }
            return all;
        }

        static boolean contains(int[] way, int n) {
            for (int m : way) {
                if (m == n) {
                    return true;
                }
            }
            return false;
        }

        int wayWeight(int[] way, int length) {
            int least = size[way[0]];
            for (int i = 1; i < length; i++) {
                least = Math.min(least, strongest(way[i - 1], way[i]));
            }
            return least;
        }

        int[] weights(List<int[]> ways) {
            int[] most = new int[11];
            for (int[] way : ways) {
                int last = way[way.length - 1];
                most[last] = Math.max(most[last], wayWeight(way, way.length));
            }
            return most;
        }

        int[] roots() {
            List<int[]> ways = ways();
            int[] weights = weights(ways);
            int[] roots = new int[11];
            for (int[] way : ways) {
                boolean open = true;
                for (int i = 0; i < way.length; i++) {
                    open = open && wayWeight(way, i + 1) == weights[way[i]];
                }
                if (open) {
                    roots[way[way.length - 1]] |= 1 << way[0];
                }
            }
            return roots;
        }

        int[] after() {
            int[] roots = roots();
            int[] after = held.clone();
            for (int s = 5; s < 11; s++) {
                int seen = 0;
                for (int m = 0; m < 11; m++) {
                    if ((roots[s] >> m & 1) == 1) {
                        seen |= 1 << held[m];
                    }
                }
                after[s] = seen == 1 ? 0 : seen == 2 ? 1 : 2;
            }
            return after;
        }

        int add(int a, int b, int what) {
            if (a == b || !node(a) || !node(b) || what < 0 || what > 26) {
                return -1;
            }
            for (int k = 0; k < 12; k++) {
                if (there[k] == null) {
                    there[k] = new Switch(a, b, what);
                    return k;
                }
            }
            return -2;
        }

        int remove(int k) {
            if (k < 0 || k > 11 || there[k] == null) {
                return 0;
            }
            there[k] = null;
            return 1;
        }

        int set(int i, int v) {
            if (i < 2 || i > 4 || v < 0 || v > 1) {
                return 0;
            }
            held[i] = v;
            return 1;
        }

        int size(int s, int z) {
            if (!store(s) || z < 1 || z > 3) {
                return 0;
            }
            size[s] = z;
            return 1;
        }

        int charge(int s, int v) {
            if (!store(s) || v < 0 || v > 2) {
                return 0;
            }
            held[s] = v;
            return 1;
        }

        int settle() {
            int[] after = after();
            int changed = 0;
            for (int s = 5; s < 11; s++) {
                changed += after[s] == held[s] ? 0 : 1;
            }
            held = after;
            return changed;
        }

        int closed() {
            int bits = 0;
            for (int k = 0; k < 12; k++) {
                bits |= isClosed(there[k]) ? 1 << k : 0;
            }
            return bits;
        }

        int switches() {
            int bits = 0;
            for (int k = 0; k < 12; k++) {
                bits |= there[k] != null ? 1 << k : 0;
            }
            return bits;
        }

        int shorted() {
            for (int[] way : ways()) {
                if (way[0] < 5 && held[way[0]] == 0) {
                    for (int n = 0; n < 5; n++) {
                        if (held[n] == 1 && strongest(way[way.length - 1], n) > 0) {
                            return 1;
                        }
                    }
                }
            }
            return 0;
        }

        int reach(int n) {
            int bits = 0;
            for (int[] way : ways()) {
                bits |= way[0] == n ? 1 << way[way.length - 1] : 0;
            }
            return bits;
        }

        int unknowns() {
            int count = 0;
            int[] after = after();
            for (int s = 5; s < 11; s++) {
                count += after[s] == 2 ? 1 : 0;
            }
            return count;
        }

        int inputsFor(int s, int v) {
            if (!store(s) || v < 0 || v > 2) {
                return -1;
            }
            int[] kept = held.clone();
            int found = -1;
            for (int bits = 7; bits >= 0; bits--) {
                held[2] = bits & 1;
                held[3] = bits >> 1 & 1;
                held[4] = bits >> 2 & 1;
                found = after()[s] == v ? bits : found;
            }
            held = kept;
            return found;
        }
    }

    private static void due(int run, int call, String what, int got, int want) {
        if (got != want) {
            wrong++;
            if (wrong <= 20) {
                System.out.println("run " + run + " call " + call + ": " + what + " answered " + got + ", due is " + want);
            }
        }
    }

    private static int bit(boolean answer) {
        return answer ? 1 : 0;
    }

    // Mostly a number in the range, now and then one just outside it.
    private static int near(int least, int most) {
        return draw(12) == 0 ? least - 1 + draw(2) * (most - least + 2) : least + draw(most - least + 1);
    }

    private static void change(SwitchNet x, Model m, int run, int call, int closeness) {
        int p;
        int q;
        switch (draw(9)) {
            case 0: case 1: case 2: case 3:
                p = near(draw(4) == 0 ? 0 : 5, 10);
                q = near(draw(3) == 0 ? 0 : 5, 10);
                int what = draw(4) < closeness ? 2 + 3 * draw(9) : near(0, 26);
                due(run, call, "add(" + p + ", " + q + ", " + what + ")", x.add(p, q, what), m.add(p, q, what));
                break;
            case 4:
                p = near(0, 11);
                due(run, call, "remove(" + p + ")", bit(x.remove(p)), m.remove(p));
                break;
            case 5:
                p = near(2, 4);
                q = near(0, 1);
                due(run, call, "set(" + p + ", " + q + ")", bit(x.set(p, q)), m.set(p, q));
                break;
            case 6:
                p = near(5, 10);
                q = near(1, 3);
                due(run, call, "size(" + p + ", " + q + ")", bit(x.size(p, q)), m.size(p, q));
                break;
            case 7:
                p = near(5, 10);
                q = near(0, 2);
                due(run, call, "charge(" + p + ", " + q + ")", bit(x.charge(p, q)), m.charge(p, q));
                break;
            default:
                if (draw(3) == 0) {
                    due(run, call, "settle()", x.settle(), m.settle());
                }
                break;
        }
    }

    private static void ask(SwitchNet x, Model m, int run, int call) {
        int n = near(0, 10);
        boolean node = m.node(n);
        switch (draw(10)) {
            case 0:
                due(run, call, "holds(" + n + ")", x.holds(n), node ? m.held[n] : -1);
                break;
            case 1:
                due(run, call, "would(" + n + ")", x.would(n), node ? m.after()[n] : -1);
                break;
            case 2:
                due(run, call, "weight(" + n + ")", x.weight(n), node ? m.weights(m.ways())[n] : -1);
                break;
            case 3:
                due(run, call, "roots(" + n + ")", x.roots(n), node ? m.roots()[n] : -1);
                break;
            case 4:
                due(run, call, "closed()", x.closed(), m.closed());
                break;
            case 5:
                due(run, call, "switches()", x.switches(), m.switches());
                break;
            case 6:
                due(run, call, "shorted()", bit(x.shorted()), m.shorted());
                break;
            case 7:
                due(run, call, "reach(" + n + ")", x.reach(n), node ? m.reach(n) : -1);
                break;
            case 8:
                due(run, call, "unknowns()", x.unknowns(), m.unknowns());
                break;
            default:
                int s = near(5, 10);
                int v = near(0, 2);
                due(run, call, "inputsFor(" + s + ", " + v + ")", x.inputsFor(s, v), m.inputsFor(s, v));
                break;
        }
    }

    public static void main(String[] args) {
        for (int run = 0; run < RUNS; run++) {
            SwitchNet x = new SwitchNet();
            Model m = new Model();
            int closeness = draw(4);
            for (int call = 0; call < CALLS; call++) {
                if (draw(3) == 0) {
                    change(x, m, run, call, closeness);
                } else {
                    ask(x, m, run, call);
                }
            }
        }
        System.out.println(wrong == 0 ? "the class and the model agree" : wrong + " answers differ");
        if (wrong != 0) {
            System.exit(1);
        }
    }
}
