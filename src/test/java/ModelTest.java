import java.util.ArrayList;
import java.util.Arrays;
import java.util.List;

// Holds the class against a model that follows the document's terms word for word: every graph of
// 2 to 4 vertices, and long runs of calls on graphs of every size.
public final class ModelTest {
    private static final int MOST_CALLS = 512;
    private static final int RUNS_OF_A_SIZE = 40;

    private static int wrong = 0;
    private static long seed = 20261115L;

    public static void main(String[] args) {
        for (int n = 2; n <= 4; n++) {
            everyGraph(n);
        }
        for (int n = 2; n <= 16; n++) {
            for (int run = 0; run < RUNS_OF_A_SIZE; run++) {
                longRun(n, run);
            }
        }
        System.out.println(wrong == 0 ? "all answers are as due" : wrong + " answers are not as due");
        if (wrong != 0) {
            System.exit(1);
        }
    }

    private static void due(String call, long got, long want) {
        if (got != want) {
            wrong++;
            if (wrong <= 20) {
                System.out.println(call + " answered " + got + ", due is " + want);
            }
        }
    }

    // The same numbers in every run of the test, so that a failure can be seen again.
    private static int next(int bound) {
        seed = seed * 6364136223846793005L + 1442695040888963407L;
        return (int) ((seed >>> 33) % bound);
    }

    private static void everyGraph(int n) {
        int pairs = n * (n - 1);
        for (int graph = 0; graph < 1 << pairs; graph++) {
            String name = "N = " + n + ", graph " + graph + ": ";
            IncrementalScc x = new IncrementalScc(n);
            Model model = new Model(n);
            for (int pair = 0; pair < pairs; pair++) {
                if ((graph >> pair & 1) != 0) {
                    add(name, x, model, from(pair, n), to(pair, n));
                }
            }
            askAll(name, x, model);
            for (int pair = 0; pair < pairs; pair++) {
                int u = from(pair, n);
                int v = to(pair, n);
                boolean wasThere = model.edge[u][v];
                remove(name, x, model, u, v);
                if (wasThere) {
                    add(name, x, model, u, v);
                }
            }
            askAll(name, x, model);
        }
    }

    private static int from(int pair, int n) {
        return pair / (n - 1);
    }

    private static int to(int pair, int n) {
        int v = pair % (n - 1);
        return v < from(pair, n) ? v : v + 1;
    }

    private static void longRun(int n, int run) {
        IncrementalScc x = new IncrementalScc(n);
        Model model = new Model(n);
        String name = "N = " + n + ", run " + run + ": ";
        // From sparse to dense: the share of additions among the changes differs from run to run.
        int additions = 35 + next(55);
        // Runs that mostly add edges in one direction keep many components.
        int upward = next(3) == 0 ? 90 : 50;
        for (int call = 1; call <= MOST_CALLS; call++) {
            int u = next(20) == 0 ? next(40) - 20 : next(n);
            int v = next(20) == 0 ? next(40) - 20 : next(n);
            boolean swap = (u > v) == (next(100) < upward);
            String here = name + "call " + call + ": ";
            if (next(2) == 0) {
                change(here, x, model, swap ? v : u, swap ? u : v, additions);
            } else {
                ask(here, x, model, u, v, next(8));
            }
        }
    }

    private static void change(String name, IncrementalScc x, Model model, int u, int v, int additions) {
        if (next(100) < additions) {
            add(name, x, model, u, v);
        } else if (model.edgeCount() > 0 && next(4) != 0) {
            int[] edge = model.edgeNumber(next(model.edgeCount()));
            remove(name, x, model, edge[0], edge[1]);
        } else {
            remove(name, x, model, u, v);
        }
    }

    private static void add(String name, IncrementalScc x, Model model, int u, int v) {
        due(name + "addEdge(" + u + ", " + v + ")", x.addEdge(u, v), model.change(u, v, true));
    }

    private static void remove(String name, IncrementalScc x, Model model, int u, int v) {
        due(name + "removeEdge(" + u + ", " + v + ")", x.removeEdge(u, v), model.change(u, v, false));
    }

    private static void askAll(String name, IncrementalScc x, Model model) {
        for (int question = 0; question < 3; question++) {
            ask(name, x, model, 0, 0, question);
        }
        for (int u = -1; u <= model.n; u++) {
            for (int question = 3; question < 7; question++) {
                ask(name, x, model, u, 0, question);
            }
            for (int v = -1; v <= model.n; v++) {
                ask(name, x, model, u, v, 7);
            }
        }
    }

    private static void ask(String name, IncrementalScc x, Model model, int u, int v, int question) {
        switch (question) {
            case 0 -> due(name + "components()", x.components(), model.components().size());
            case 1 -> due(name + "outerEdges()", x.outerEdges(), model.outerEdges());
            case 2 -> due(name + "inOneLine()", x.inOneLine() ? 1 : 0, model.inOneLine() ? 1 : 0);
            case 3 -> due(name + "leader(" + u + ")", x.leader(u), model.leader(u));
            case 4 -> due(name + "componentSize(" + u + ")", x.componentSize(u), model.componentSize(u));
            case 5 -> due(name + "height(" + u + ")", x.height(u), model.height(u));
            case 6 -> due(name + "cycle(" + u + ")", x.cycle(u), model.cycle(u));
            default -> due(name + "reaches(" + u + ", " + v + ")", x.reaches(u, v) ? 1 : 0, model.reaches(u, v) ? 1 : 0);
        }
    }

    private static final class Model {
        private static final int BAD = -1;
        private static final int NONE = -2;

        private final int n;
        private final boolean[][] edge;
        private final int[][] distance;

        Model(int n) {
            this.n = n;
            edge = new boolean[n][n];
            distance = new int[n][];
            measure();
        }

        void measure() {
            for (int u = 0; u < n; u++) {
                distance[u] = distancesFrom(u);
            }
        }

        boolean isVertex(int u) {
            return u >= 0 && u < n;
        }

        int edgeCount() {
            int count = 0;
            for (boolean[] row : edge) {
                for (boolean there : row) {
                    count += there ? 1 : 0;
                }
            }
            return count;
        }

        int[] edgeNumber(int number) {
            int left = number;
            for (int u = 0; u < n; u++) {
                for (int v = 0; v < n; v++) {
                    if (edge[u][v] && left-- == 0) {
                        return new int[] {u, v};
                    }
                }
            }
            throw new IllegalStateException("no edge " + number);
        }

        int change(int u, int v, boolean there) {
            if (!isVertex(u) || !isVertex(v) || u == v) {
                return BAD;
            }
            if (edge[u][v] == there) {
                return NONE;
            }
            int before = components().size();
            edge[u][v] = there;
            measure();
            int after = components().size();
            return there ? before - after : after - before;
        }

        // The lengths of the shortest walks from u, by breadth; -1 where there is none.
        int[] distancesFrom(int u) {
            int[] lengths = new int[n];
            Arrays.fill(lengths, -1);
            lengths[u] = 0;
            List<Integer> queue = new ArrayList<>(List.of(u));
            for (int at = 0; at < queue.size(); at++) {
                int w = queue.get(at);
                for (int v = 0; v < n; v++) {
                    if (edge[w][v] && lengths[v] < 0) {
                        lengths[v] = lengths[w] + 1;
                        queue.add(v);
                    }
                }
            }
            return lengths;
        }

        boolean reaches(int u, int v) {
            return isVertex(u) && isVertex(v) && distance[u][v] >= 0;
        }

        List<Integer> component(int u) {
            List<Integer> members = new ArrayList<>();
            for (int v = 0; v < n; v++) {
                if (reaches(u, v) && reaches(v, u)) {
                    members.add(v);
                }
            }
            return members;
        }

        List<List<Integer>> components() {
            List<List<Integer>> all = new ArrayList<>();
            for (int u = 0; u < n; u++) {
                List<Integer> component = component(u);
                if (!all.contains(component)) {
                    all.add(component);
                }
            }
            return all;
        }

        int leader(int u) {
            return isVertex(u) ? component(u).get(0) : BAD;
        }

        int componentSize(int u) {
            return isVertex(u) ? component(u).size() : BAD;
        }

        boolean someEdge(List<Integer> from, List<Integer> to) {
            for (int u : from) {
                for (int v : to) {
                    if (edge[u][v]) {
                        return true;
                    }
                }
            }
            return false;
        }

        int height(int u) {
            if (!isVertex(u)) {
                return BAD;
            }
            List<List<Integer>> all = components();
            return longestChainTo(all.indexOf(component(u)), all, new int[all.size()]) - 1;
        }

        // The number of components on the longest chain of outer edges; 0 in known means not yet told.
        int longestChainTo(int last, List<List<Integer>> all, int[] known) {
            if (known[last] == 0) {
                int longest = 0;
                for (int before = 0; before < all.size(); before++) {
                    if (before != last && someEdge(all.get(before), all.get(last))) {
                        longest = Math.max(longest, longestChainTo(before, all, known));
                    }
                }
                known[last] = longest + 1;
            }
            return known[last];
        }

        int cycle(int u) {
            if (!isVertex(u)) {
                return BAD;
            }
            int least = NONE;
            for (int v = 0; v < n; v++) {
                int back = distance[v][u];
                if (edge[u][v] && back >= 0 && (least == NONE || back + 1 < least)) {
                    least = back + 1;
                }
            }
            return least;
        }

        int outerEdges() {
            int count = 0;
            for (int u = 0; u < n; u++) {
                for (int v = 0; v < n; v++) {
                    count += edge[u][v] && !component(u).contains(v) ? 1 : 0;
                }
            }
            return count;
        }

        // Looks for the order itself, by trying every one.
        boolean inOneLine() {
            List<List<Integer>> all = components();
            boolean[][] before = new boolean[all.size()][all.size()];
            for (int i = 0; i < all.size(); i++) {
                for (int j = 0; j < all.size(); j++) {
                    before[i][j] = reaches(all.get(i).get(0), all.get(j).get(0));
                }
            }
            for (int first = 0; first < all.size(); first++) {
                if (lineFrom(first, 1 << first, before)) {
                    return true;
                }
            }
            return false;
        }

        boolean lineFrom(int last, int used, boolean[][] before) {
            if (used == (1 << before.length) - 1) {
                return true;
            }
            for (int next = 0; next < before.length; next++) {
                if ((used >> next & 1) == 0 && before[last][next] && lineFrom(next, used | 1 << next, before)) {
                    return true;
                }
            }
            return false;
        }
    }
}
