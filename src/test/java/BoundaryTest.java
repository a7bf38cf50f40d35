import java.lang.reflect.InvocationTargetException;
import java.lang.reflect.Method;
import java.util.ArrayList;
import java.util.Arrays;
import java.util.Comparator;
import java.util.List;
import java.util.function.Consumer;
import java.util.function.Supplier;

// Each sentence of the document that names a boundary case has a test of its own here, named after
// the part of the document where it stands: a method "whatItIs..", "terms.." or "promise<number>..".
public final class BoundaryTest {
    private static final int BAD = -1;
    private static final int NONE = -2;
    private static final int LEAST = 2;
    private static final int MOST = 16;
    private static final int MOST_CALLS = 512;
    private static final int LEAST_INT = Integer.MIN_VALUE;
    private static final int GREATEST_INT = Integer.MAX_VALUE;

    private static String test = "";
    private static int wrong = 0;

    // The tests are found by their names, so that none can be written and then not run.
    public static void main(String[] args) throws IllegalAccessException {
        int tests = 0;
        Method[] methods = BoundaryTest.class.getDeclaredMethods();
        Arrays.sort(methods, Comparator.comparing(Method::getName));
        for (Method method : methods) {
            if (method.getName().matches("(whatItIs|terms|promise\\d+)[A-Z].*")) {
                run(method);
                tests++;
            }
        }
        System.out.println(tests + " tests, " + (wrong == 0 ? "all answers are as due" : wrong + " answers are not as due"));
        if (wrong != 0 || tests == 0) {
            System.exit(1);
        }
    }

    private static void run(Method method) throws IllegalAccessException {
        test = method.getName();
        try {
            method.invoke(null);
        } catch (InvocationTargetException thrown) {
            tell("threw " + thrown.getCause());
        }
    }

    private static void tell(String what) {
        wrong++;
        System.out.println(test + ": " + what);
    }

    // An object whose answers are held against those that are due, and whose calls are counted.
    private static final class Checked {
        private final IncrementalScc graph;
        private final int asked;
        private int calls = 0;

        Checked(int vertices) {
            graph = new IncrementalScc(vertices);
            asked = vertices;
        }

        // A test that asks more than 512 calls of an object would ask what the document leaves free.
        IncrementalScc next() {
            calls++;
            if (calls > MOST_CALLS) {
                throw new IllegalStateException("the test makes more than " + MOST_CALLS + " calls");
            }
            return graph;
        }

        private void due(String call, Object got, Object want) {
            if (!got.equals(want)) {
                tell("new(" + asked + "), call " + calls + ": " + call + " answered " + got + ", due is " + want);
            }
        }

        void addEdge(int u, int v, int want) {
            due("addEdge(" + u + ", " + v + ")", next().addEdge(u, v), want);
        }

        void removeEdge(int u, int v, int want) {
            due("removeEdge(" + u + ", " + v + ")", next().removeEdge(u, v), want);
        }

        void components(int want) {
            due("components()", next().components(), want);
        }

        void leader(int u, int want) {
            due("leader(" + u + ")", next().leader(u), want);
        }

        void componentSize(int u, int want) {
            due("componentSize(" + u + ")", next().componentSize(u), want);
        }

        void reaches(int u, int v, boolean want) {
            due("reaches(" + u + ", " + v + ")", next().reaches(u, v), want);
        }

        void height(int u, int want) {
            due("height(" + u + ")", next().height(u), want);
        }

        void cycle(int u, int want) {
            due("cycle(" + u + ")", next().cycle(u), want);
        }

        void outerEdges(int want) {
            due("outerEdges()", next().outerEdges(), want);
        }

        void inOneLine(boolean want) {
            due("inOneLine()", next().inOneLine(), want);
        }
    }

    // ---- graphs ----

    private static Checked empty(int n) {
        return new Checked(n);
    }

    private static Checked graph(int n, int... ends) {
        Checked x = new Checked(n);
        for (int i = 0; i < ends.length; i += 2) {
            x.next().addEdge(ends[i], ends[i + 1]);
        }
        return x;
    }

    private static Checked full(int n) {
        Checked x = new Checked(n);
        for (int u = 0; u < n; u++) {
            for (int v = 0; v < n; v++) {
                if (u != v) {
                    x.next().addEdge(u, v);
                }
            }
        }
        return x;
    }

    // Every edge from a smaller to a greater vertex: as many edges as a graph of lone vertices can have.
    private static Checked allUpward(int n) {
        Checked x = new Checked(n);
        for (int u = 0; u < n; u++) {
            for (int v = u + 1; v < n; v++) {
                x.next().addEdge(u, v);
            }
        }
        return x;
    }

    private static Checked pathUp(int n) {
        Checked x = new Checked(n);
        for (int u = 0; u + 1 < n; u++) {
            x.next().addEdge(u, u + 1);
        }
        return x;
    }

    private static Checked pathDown(int n) {
        Checked x = new Checked(n);
        for (int u = 0; u + 1 < n; u++) {
            x.next().addEdge(u + 1, u);
        }
        return x;
    }

    private static Checked ring(int n) {
        Checked x = pathUp(n);
        x.next().addEdge(n - 1, 0);
        return x;
    }

    // Rings {0, 3, 4} and {1, 5} with two edges from the first to the second, 2 behind them, 6 alone.
    private static Checked twoRings() {
        return graph(7, 0, 3, 3, 4, 4, 0, 1, 5, 5, 1, 3, 1, 4, 1, 5, 2);
    }

    // The numbers next to the vertices, the ends of int, and those that a shift, a mask or a cast to
    // a shorter type would take for a vertex.
    private static List<Integer> outside(int n) {
        List<Integer> numbers = new ArrayList<>(below());
        numbers.addAll(above(n));
        return numbers;
    }

    private static List<Integer> below() {
        return List.of(-1, -2, -15, -16, -31, -32, -64, -255, -256, -65535, -65536, LEAST_INT + 1, LEAST_INT);
    }

    private static List<Integer> above(int n) {
        return List.of(n, n + 1, 16, 17, 31, 32, 33, 64, 65, 256, 257, 65536, 65537, GREATEST_INT - 1, GREATEST_INT);
    }

    // BAD is due whatever the graph is, so each such test looks at the same graphs of every size.
    private static List<Checked> graphsOfEverySize() {
        List<Checked> graphs = new ArrayList<>();
        for (int n = LEAST; n <= MOST; n++) {
            graphs.add(empty(n));
            graphs.add(pathUp(n));
            graphs.add(full(n));
        }
        return graphs;
    }

    // ---- What it is ----

    // "An object is used for at most 512 calls after it has been made": the 512th is still promised.
    private static void whatItIsThe512thCallAnswers() {
        beforeThe512thCall().addEdge(1, 0, 1);
        beforeThe512thCall().addEdge(0, 15, NONE);
        beforeThe512thCall().addEdge(0, 16, BAD);
        beforeThe512thCall().removeEdge(15, 1, 14);
        beforeThe512thCall().removeEdge(1, 15, NONE);
        beforeThe512thCall().removeEdge(-1, 15, BAD);
        beforeThe512thCall().components(2);
        beforeThe512thCall().leader(15, 1);
        beforeThe512thCall().componentSize(15, 15);
        beforeThe512thCall().reaches(0, 15, true);
        beforeThe512thCall().reaches(15, 0, false);
        beforeThe512thCall().height(7, 1);
        beforeThe512thCall().cycle(7, 15);
        beforeThe512thCall().outerEdges(2);
        beforeThe512thCall().inOneLine(true);
    }

    // After 511 calls: 0 leads to 1 and to 15 of the ring 1, 2, .. 15.
    private static Checked beforeThe512thCall() {
        Checked x = empty(16);
        for (int pair = 0; pair < 247; pair++) {
            x.addEdge(3, 1, 0);
            x.removeEdge(3, 1, 0);
        }
        for (int u = 0; u < 15; u++) {
            x.addEdge(u, u + 1, 0);
        }
        x.addEdge(15, 1, 14);
        x.addEdge(0, 15, 0);
        if (x.calls != MOST_CALLS - 1) {
            tell("the test makes " + x.calls + " calls before the last one");
        }
        return x;
    }

    // The greatest graph can be filled and emptied again within 512 calls.
    private static void whatItIsFilledAndEmptiedWithin512Calls() {
        Checked x = full(16);
        for (int u = 0; u < 16; u++) {
            for (int v = 0; v < 16; v++) {
                if (u != v) {
                    // The last edge of each vertex but the last one cuts it off from the rest.
                    boolean last = v == 15;
                    x.removeEdge(u, v, u < 15 && last ? 1 : 0);
                }
            }
        }
        x.components(16);
        x.outerEdges(0);
        while (x.calls < MOST_CALLS - 1) {
            x.cycle(x.calls % 16, NONE);
        }
        x.addEdge(15, 0, 0);
    }

    // ---- Terms ----

    // "an edge is in it once or not at all"
    private static void termsAnEdgeIsInOnceOrNotAtAll() {
        Checked x = empty(2);
        x.addEdge(0, 1, 0);
        x.addEdge(0, 1, NONE);
        x.outerEdges(1);
        x.removeEdge(0, 1, 0);
        x.outerEdges(0);
        x.reaches(0, 1, false);
        x.removeEdge(0, 1, NONE);
        x.addEdge(0, 1, 0);
        x.outerEdges(1);
    }

    // "edges (u, v)": the edge (v, u) is another one.
    private static void termsAnEdgeHasADirection() {
        Checked x = empty(16);
        x.addEdge(0, 15, 0);
        x.removeEdge(15, 0, NONE);
        x.reaches(0, 15, true);
        x.reaches(15, 0, false);
        x.addEdge(15, 0, 1);
        x.removeEdge(0, 15, 1);
        x.reaches(0, 15, false);
        x.reaches(15, 0, true);
    }

    // "so every vertex reaches itself", with edges or without, and after the last edge has gone.
    private static void termsEveryVertexReachesItself() {
        for (Checked x : graphsOfEverySize()) {
            for (int u = 0; u < x.asked; u++) {
                x.reaches(u, u, true);
            }
        }
        Checked emptied = graph(2, 0, 1, 1, 0);
        emptied.removeEdge(0, 1, 1);
        emptied.removeEdge(1, 0, 0);
        emptied.reaches(0, 0, true);
        emptied.reaches(1, 1, true);
    }

    // "a list of vertices": of one edge, or of so many that it meets every vertex, in any order.
    private static void termsAWalkMayMeetEveryVertex() {
        for (int n = LEAST; n <= MOST; n++) {
            int[] zigzag = new int[n];
            for (int i = 0; i < n; i++) {
                zigzag[i] = i % 2 == 0 ? i / 2 : n - 1 - i / 2;
            }
            reachesAlong(zigzag);
            for (int first = 0; first < n; first++) {
                int[] up = new int[n];
                int[] down = new int[n];
                for (int i = 0; i < n; i++) {
                    up[i] = (first + i) % n;
                    down[i] = (first + n - i) % n;
                }
                reachesAlong(up);
                reachesAlong(down);
            }
        }
    }

    private static void reachesAlong(int[] order) {
        int n = order.length;
        Checked x = empty(n);
        for (int i = 0; i + 1 < n; i++) {
            x.addEdge(order[i], order[i + 1], 0);
        }
        x.reaches(order[0], order[n - 1], true);
        x.reaches(order[n - 1], order[0], false);
    }

    // "u reaches v and v reaches u": one of the two is not enough, and a lone vertex is a component.
    private static void termsAComponentNeedsBothWays() {
        Checked x = graph(3, 0, 1, 1, 2);
        x.components(3);
        x.leader(2, 2);
        x.componentSize(1, 1);
        x.addEdge(2, 1, 1);
        x.components(2);
        x.leader(2, 1);
        x.componentSize(0, 1);
        x.componentSize(1, 2);
    }

    // "An edge from a component to another one is an OUTER edge, an edge within a component an INNER edge."
    private static void termsAnEdgeIsOuterOrInner() {
        Checked x = graph(4, 0, 1, 1, 2);
        x.outerEdges(2);
        x.addEdge(1, 0, 1);
        x.outerEdges(1);
        x.addEdge(2, 3, 0);
        x.outerEdges(2);
        x.addEdge(3, 0, 2);
        x.outerEdges(0);
        x.removeEdge(2, 3, 2);
        x.outerEdges(2);
    }

    // "the greatest h": the longest of several chains, where a shorter one leads there too.
    private static void termsHeightIsOfTheLongestChain() {
        Checked x = graph(5, 4, 0, 4, 3, 3, 1, 1, 0, 0, 2, 4, 2);
        x.height(4, 0);
        x.height(3, 1);
        x.height(1, 2);
        x.height(0, 3);
        x.height(2, 4);
        Checked most = allUpward(16);
        most.height(15, 15);
        most.removeEdge(7, 8, 0);
        most.height(15, 14);
    }

    // "h + 1 different components": 0 where no outer edge leads in, N - 1 at the most.
    private static void termsHeightIsFromZeroToOneLessThanN() {
        for (int n = LEAST; n <= MOST; n++) {
            pathUp(n).height(0, 0);
            pathUp(n).height(n - 1, n - 1);
            pathDown(n).height(n - 1, 0);
            pathDown(n).height(0, n - 1);
        }
        graph(3, 0, 1, 0, 2).height(0, 0);
    }

    // "with some outer edge from each to the next": inner edges add nothing, however many there are.
    private static void termsHeightPassesInnerEdgesOver() {
        ring(16).height(9, 0);
        Checked x = graph(16, 0, 1, 1, 2, 2, 3, 3, 4, 4, 1, 3, 15, 15, 14, 14, 15);
        x.height(0, 0);
        x.height(1, 1);
        x.height(4, 1);
        x.height(15, 2);
        x.height(14, 2);
    }

    // ---- Promise 1 ----

    private static void hasVertices(int asked, int n) {
        Checked x = new Checked(asked);
        x.components(n);
        x.leader(n - 1, n - 1);
        x.leader(n, BAD);
        x.componentSize(n, BAD);
        x.addEdge(0, n - 1, 0);
        x.addEdge(0, n, BAD);
        x.addEdge(n, 0, BAD);
        x.reaches(0, n - 1, true);
        x.reaches(n, n, false);
    }

    // "N is vertices clamped into 2..16."
    private static void promise1BelowTwoGivesTwo() {
        for (int asked : new int[] {1, 0, -1, -2, -3, -16, -253, -65533}) {
            hasVertices(asked, 2);
        }
    }

    private static void promise1TheLeastIntGivesTwo() {
        hasVertices(LEAST_INT, 2);
        hasVertices(LEAST_INT + 1, 2);
        hasVertices(LEAST_INT + 5, 2);
    }

    private static void promise1TwoGivesTwo() {
        hasVertices(2, 2);
    }

    private static void promise1BetweenTheBoundsGivesTheNumberItself() {
        for (int asked = 3; asked <= 15; asked++) {
            hasVertices(asked, asked);
        }
    }

    private static void promise1SixteenGivesSixteen() {
        hasVertices(16, 16);
    }

    private static void promise1AboveSixteenGivesSixteen() {
        for (int asked : new int[] {17, 18, 31, 32, 33, 34, 64, 255, 256, 258, 65535, 65538}) {
            hasVertices(asked, 16);
        }
    }

    private static void promise1TheGreatestIntGivesSixteen() {
        hasVertices(GREATEST_INT, 16);
        hasVertices(GREATEST_INT - 1, 16);
    }

    // "No edges."
    private static void promise1NoEdges() {
        for (int n = LEAST; n <= MOST; n++) {
            Checked x = empty(n);
            x.outerEdges(0);
            for (int u = 0; u < n; u++) {
                for (int v = 0; v < n; v++) {
                    x.removeEdge(u, v, u == v ? BAD : NONE);
                }
            }
        }
    }

    private static void promise1ANewObjectKnowsNothingOfAnother() {
        Checked old = full(16);
        Checked x = empty(16);
        x.outerEdges(0);
        x.components(16);
        x.addEdge(0, 1, 0);
        old.addEdge(0, 1, NONE);
        old.components(1);
    }

    // ---- Promise 2 ----

    // "u or v outside 0..N-1 or u = v: BAD."
    private static void promise2BadForUBelow() {
        for (Checked x : graphsOfEverySize()) {
            below().forEach(u -> x.addEdge(u, 1, BAD));
        }
    }

    private static void promise2BadForUAbove() {
        for (Checked x : graphsOfEverySize()) {
            above(x.asked).forEach(u -> x.addEdge(u, 1, BAD));
        }
    }

    private static void promise2BadForVBelow() {
        for (Checked x : graphsOfEverySize()) {
            below().forEach(v -> x.addEdge(0, v, BAD));
        }
    }

    private static void promise2BadForVAbove() {
        for (Checked x : graphsOfEverySize()) {
            above(x.asked).forEach(v -> x.addEdge(0, v, BAD));
        }
    }

    private static void promise2BadForBothOutside() {
        for (Checked x : graphsOfEverySize()) {
            outside(x.asked).forEach(u -> x.addEdge(u, u, BAD));
            x.addEdge(-1, x.asked, BAD);
            x.addEdge(LEAST_INT, GREATEST_INT, BAD);
        }
    }

    private static void promise2BadForUEqualToV() {
        for (Checked x : graphsOfEverySize()) {
            for (int u = 0; u < x.asked; u++) {
                x.addEdge(u, u, BAD);
            }
        }
    }

    // The bounds themselves are vertices.
    private static void promise2TakesTheFirstAndTheLastVertex() {
        for (int n = LEAST; n <= MOST; n++) {
            empty(n).addEdge(0, n - 1, 0);
            empty(n).addEdge(n - 1, 0, 0);
        }
    }

    // "The edge is there: NONE.", for an outer edge and for an inner one
    private static void promise2NoneForAnEdgeThatIsThere() {
        Checked x = twoRings();
        x.addEdge(3, 1, NONE);
        x.addEdge(0, 3, NONE);
        Checked smallest = graph(2, 1, 0);
        smallest.addEdge(1, 0, NONE);
        smallest.addEdge(0, 1, 1);
        smallest.addEdge(1, 0, NONE);
        smallest.addEdge(0, 1, NONE);
    }

    private static void promise2NotNoneForAnEdgeThatWasThere() {
        Checked x = ring(16);
        x.removeEdge(15, 0, 15);
        x.addEdge(15, 0, 15);
        x.removeEdge(15, 0, 15);
        x.addEdge(15, 0, 15);
    }

    // Reaching v already is not the edge itself.
    private static void promise2NotNoneForAVertexReachedOtherwise() {
        graph(3, 0, 1, 1, 2).addEdge(0, 2, 0);
        ring(3).addEdge(0, 2, 0);
    }

    // "(0 if none)"
    private static void promise2ZeroIfNoneIsLost() {
        Checked x = empty(4);
        x.addEdge(0, 1, 0);
        x.addEdge(1, 2, 0);
        x.addEdge(0, 2, 0);
        x.addEdge(2, 0, 2);
        x.addEdge(1, 0, 0);
        x.addEdge(2, 3, 0);
        x.addEdge(0, 3, 0);
    }

    // "the number of components that the graph has lost by this", from one to N - 1
    private static void promise2FromOneToAllButOneAreLost() {
        for (int n = LEAST; n <= MOST; n++) {
            for (int back = 0; back < n - 1; back++) {
                pathUp(n).addEdge(n - 1, back, n - 1 - back);
            }
            for (int back = 1; back < n; back++) {
                pathDown(n).addEdge(0, back, back);
            }
        }
    }

    // Components are counted, not their vertices.
    private static void promise2TwoRingsMadeOneLoseOne() {
        Checked x = twoRings();
        x.addEdge(1, 0, 1);
        x.components(3);
        x.componentSize(0, 5);
    }

    private static void promise2OnTheGraphWithoutEdges() {
        for (int n = LEAST; n <= MOST; n++) {
            for (int u = 0; u < n; u++) {
                for (int v = 0; v < n; v++) {
                    empty(n).addEdge(u, v, u == v ? BAD : 0);
                }
            }
        }
    }

    private static void promise2OnTheGraphWithEveryEdge() {
        for (int n = LEAST; n <= MOST; n++) {
            Checked x = full(n);
            for (int u = 0; u < n; u++) {
                for (int v = 0; v < n; v++) {
                    x.addEdge(u, v, u == v ? BAD : NONE);
                }
            }
        }
    }

    // ---- Promise 3 ----

    // "u or v outside 0..N-1 or u = v: BAD."
    private static void promise3BadForUBelow() {
        for (Checked x : graphsOfEverySize()) {
            below().forEach(u -> x.removeEdge(u, 1, BAD));
        }
    }

    private static void promise3BadForUAbove() {
        for (Checked x : graphsOfEverySize()) {
            above(x.asked).forEach(u -> x.removeEdge(u, 1, BAD));
        }
    }

    private static void promise3BadForVBelow() {
        for (Checked x : graphsOfEverySize()) {
            below().forEach(v -> x.removeEdge(0, v, BAD));
        }
    }

    private static void promise3BadForVAbove() {
        for (Checked x : graphsOfEverySize()) {
            above(x.asked).forEach(v -> x.removeEdge(0, v, BAD));
        }
    }

    private static void promise3BadForBothOutside() {
        for (Checked x : graphsOfEverySize()) {
            outside(x.asked).forEach(u -> x.removeEdge(u, u, BAD));
            x.removeEdge(-1, x.asked, BAD);
            x.removeEdge(LEAST_INT, GREATEST_INT, BAD);
        }
    }

    private static void promise3BadForUEqualToV() {
        for (Checked x : graphsOfEverySize()) {
            for (int u = 0; u < x.asked; u++) {
                x.removeEdge(u, u, BAD);
            }
        }
    }

    private static void promise3TakesTheFirstAndTheLastVertex() {
        for (int n = LEAST; n <= MOST; n++) {
            graph(n, 0, n - 1).removeEdge(0, n - 1, 0);
            graph(n, n - 1, 0).removeEdge(n - 1, 0, 0);
        }
    }

    // "The edge is not there: NONE.": never, no more, only the other way, or only a longer walk
    private static void promise3NoneForAnEdgeThatIsNotThere() {
        Checked x = graph(4, 0, 1, 1, 2, 2, 0);
        x.removeEdge(3, 0, NONE);
        x.removeEdge(1, 0, NONE);
        x.removeEdge(0, 2, NONE);
        x.removeEdge(0, 1, 2);
        x.removeEdge(0, 1, NONE);
        Checked path = graph(3, 0, 1, 1, 2);
        path.removeEdge(0, 2, NONE);
        path.removeEdge(1, 0, NONE);
    }

    // 0 for an outer edge, and for an inner one where another way is left
    private static void promise3ZeroIfNoneIsGained() {
        Checked x = twoRings();
        x.removeEdge(3, 1, 0);
        x.removeEdge(4, 1, 0);
        x.removeEdge(5, 2, 0);
        Checked chord = graph(3, 0, 1, 1, 2, 2, 0, 1, 0);
        chord.removeEdge(1, 0, 0);
        chord.components(1);
    }

    // "the number of components that the graph has gained by this", from one to N - 1
    private static void promise3FromOneToAllButOneAreGained() {
        for (int n = LEAST; n <= MOST; n++) {
            for (int u = 0; u < n; u++) {
                ring(n).removeEdge(u, (u + 1) % n, n - 1);
            }
            for (int back = 0; back < n - 1; back++) {
                Checked x = pathUp(n);
                x.addEdge(n - 1, back, n - 1 - back);
                x.removeEdge(n - 1, back, n - 1 - back);
            }
        }
    }

    // Components are counted, not their vertices.
    private static void promise3OneThatFallsInTwoGainsOne() {
        Checked x = graph(5, 0, 3, 3, 4, 4, 0, 1, 2, 2, 1, 0, 1, 2, 3);
        x.components(1);
        x.removeEdge(2, 3, 1);
        x.componentSize(0, 3);
        x.componentSize(1, 2);
    }

    private static void promise3OnTheGraphWithoutEdges() {
        for (int n = LEAST; n <= MOST; n++) {
            Checked x = empty(n);
            for (int u = 0; u < n; u++) {
                for (int v = 0; v < n; v++) {
                    x.removeEdge(u, v, u == v ? BAD : NONE);
                }
            }
        }
    }

    // One edge less leaves another way, except where there are two vertices only.
    private static void promise3OnTheGraphWithEveryEdge() {
        for (int n = LEAST; n <= MOST; n++) {
            for (int u = 0; u < n; u++) {
                Checked x = full(n);
                for (int v = 0; v < n; v++) {
                    int change = n == 2 ? 1 : 0;
                    x.removeEdge(u, v, u == v ? BAD : change);
                    x.removeEdge(u, v, u == v ? BAD : NONE);
                    x.addEdge(u, v, u == v ? BAD : change);
                }
            }
        }
    }

    // ---- Promise 4 ----

    private static void promise4OnTheGraphWithoutEdges() {
        for (int n = LEAST; n <= MOST; n++) {
            empty(n).components(n);
        }
    }

    private static void promise4OnTheGraphWithEveryEdge() {
        for (int n = LEAST; n <= MOST; n++) {
            full(n).components(1);
        }
    }

    // As many edges as can be without a way back leave every vertex alone; one edge more joins them all.
    private static void promise4OnTheGreatestGraphWithoutAWayBack() {
        for (int n = LEAST; n <= MOST; n++) {
            Checked x = allUpward(n);
            x.components(n);
            x.addEdge(n - 1, 0, n - 1);
            x.components(1);
        }
    }

    // ---- Promise 5 ----

    // "BAD for u outside 0..N-1"
    private static void promise5BadForUOutside() {
        for (Checked x : graphsOfEverySize()) {
            outside(x.asked).forEach(u -> x.leader(u, BAD));
        }
    }

    // "The smallest vertex of u's component": the first, the last, and the next one when that is lost
    private static void promise5TheSmallestIsTakenAnew() {
        Checked x = ring(16);
        x.leader(15, 0);
        x.removeEdge(15, 0, 15);
        x.leader(15, 15);
        x.addEdge(15, 14, 1);
        x.leader(15, 14);
        x.addEdge(15, 1, 13);
        x.leader(15, 1);
        x.leader(1, 1);
        x.leader(0, 0);
    }

    // "of u's component": a smaller vertex that is only reached, or that only reaches u, does not count.
    private static void promise5ASmallerVertexOutsideTheComponentDoesNotCount() {
        for (int n = LEAST; n <= MOST; n++) {
            pathUp(n).leader(n - 1, n - 1);
            pathDown(n).leader(n - 1, n - 1);
        }
    }

    private static void promise5OnTheGraphWithoutEdges() {
        for (int n = LEAST; n <= MOST; n++) {
            Checked x = empty(n);
            for (int u = 0; u < n; u++) {
                x.leader(u, u);
            }
        }
    }

    private static void promise5OnTheGraphWithEveryEdge() {
        for (int n = LEAST; n <= MOST; n++) {
            Checked x = full(n);
            for (int u = 0; u < n; u++) {
                x.leader(u, 0);
            }
        }
    }

    // ---- Promise 6 ----

    // "BAD for u outside 0..N-1"
    private static void promise6BadForUOutside() {
        for (Checked x : graphsOfEverySize()) {
            outside(x.asked).forEach(u -> x.componentSize(u, BAD));
        }
    }

    private static void promise6EverySizeFromOneToN() {
        for (int size = 1; size <= 16; size++) {
            Checked x = pathUp(16);
            x.addEdge(15, 16 - size, size == 1 ? BAD : size - 1);
            x.componentSize(15, size);
            x.componentSize(16 - size, size);
            x.componentSize(0, size == 16 ? 16 : 1);
        }
    }

    private static void promise6OnTheGraphWithoutEdges() {
        for (int n = LEAST; n <= MOST; n++) {
            Checked x = empty(n);
            for (int u = 0; u < n; u++) {
                x.componentSize(u, 1);
            }
        }
    }

    private static void promise6OnTheGraphWithEveryEdge() {
        for (int n = LEAST; n <= MOST; n++) {
            Checked x = full(n);
            for (int u = 0; u < n; u++) {
                x.componentSize(u, n);
            }
        }
    }

    // ---- Promise 7 ----

    // "false for numbers outside 0..N-1"
    private static void promise7FalseForUOutside() {
        for (Checked x : graphsOfEverySize()) {
            outside(x.asked).forEach(u -> x.reaches(u, 1, false));
        }
    }

    private static void promise7FalseForVOutside() {
        for (Checked x : graphsOfEverySize()) {
            outside(x.asked).forEach(v -> x.reaches(0, v, false));
        }
    }

    // A number that is no vertex does not reach itself.
    private static void promise7FalseForTheSameNumberOutside() {
        for (Checked x : graphsOfEverySize()) {
            outside(x.asked).forEach(u -> x.reaches(u, u, false));
        }
    }

    private static void promise7OnTheGraphWithoutEdges() {
        for (int n = LEAST; n <= MOST; n++) {
            Checked x = empty(n);
            for (int u = 0; u < n; u++) {
                for (int v = 0; v < n; v++) {
                    x.reaches(u, v, u == v);
                }
            }
        }
    }

    private static void promise7OnTheGraphWithEveryEdge() {
        for (int n = LEAST; n <= MOST; n++) {
            Checked x = full(n);
            for (int u = 0; u < n; u++) {
                for (int v = 0; v < n; v++) {
                    x.reaches(u, v, true);
                }
            }
        }
    }

    // ---- Promise 8 ----

    // "BAD for u outside 0..N-1"
    private static void promise8BadForUOutside() {
        for (Checked x : graphsOfEverySize()) {
            outside(x.asked).forEach(u -> x.height(u, BAD));
        }
    }

    private static void promise8OnTheGraphWithoutEdges() {
        for (int n = LEAST; n <= MOST; n++) {
            Checked x = empty(n);
            for (int u = 0; u < n; u++) {
                x.height(u, 0);
            }
        }
    }

    private static void promise8OnTheGraphWithEveryEdge() {
        for (int n = LEAST; n <= MOST; n++) {
            Checked x = full(n);
            for (int u = 0; u < n; u++) {
                x.height(u, 0);
            }
        }
    }

    private static void promise8OnTheGreatestGraphWithoutAWayBack() {
        for (int n = LEAST; n <= MOST; n++) {
            Checked x = allUpward(n);
            for (int u = 0; u < n; u++) {
                x.height(u, u);
            }
        }
    }

    // ---- Promise 9 ----

    // "BAD for u outside 0..N-1": BAD and not NONE, though no walk is there either
    private static void promise9BadForUOutside() {
        for (Checked x : graphsOfEverySize()) {
            outside(x.asked).forEach(u -> x.cycle(u, BAD));
        }
    }

    // "NONE if there is none", also for one that leads to a ring or that a ring leads to
    private static void promise9NoneIfThereIsNone() {
        Checked x = graph(4, 0, 1, 1, 2, 2, 1, 2, 3);
        x.cycle(0, NONE);
        x.cycle(3, NONE);
        x.cycle(1, 2);
        Checked opened = ring(16);
        opened.cycle(0, 16);
        opened.removeEdge(15, 0, 15);
        opened.cycle(0, NONE);
        opened.cycle(15, NONE);
    }

    // "of at least one edge": the walk of length 0 does not count.
    private static void promise9TheWalkOfNoEdgesDoesNotCount() {
        empty(2).cycle(0, NONE);
        graph(2, 0, 1).cycle(0, NONE);
        graph(2, 0, 1, 1, 0).cycle(0, 2);
    }

    // "The least length", from 2, as no edge leads from a vertex to itself, to N
    private static void promise9FromTwoToN() {
        for (int n = LEAST; n <= MOST; n++) {
            Checked x = ring(n);
            for (int u = 0; u < n; u++) {
                x.cycle(u, n);
            }
            for (int back = 1; back < n - 1; back++) {
                Checked shorter = ring(n);
                shorter.addEdge(n - 1, back, 0);
                shorter.cycle(n - 1, n - back);
                shorter.cycle(back - 1, n);
            }
        }
    }

    // "from u to u": a shorter ring elsewhere in the component is not u's.
    private static void promise9TheLeastIsOfTheVertexNotOfTheComponent() {
        Checked x = graph(6, 0, 1, 1, 2, 2, 0, 2, 3, 3, 4, 4, 5, 5, 2);
        x.cycle(0, 3);
        x.cycle(2, 3);
        x.cycle(3, 4);
        x.cycle(5, 4);
    }

    private static void promise9OnTheGraphWithoutEdges() {
        for (int n = LEAST; n <= MOST; n++) {
            Checked x = empty(n);
            for (int u = 0; u < n; u++) {
                x.cycle(u, NONE);
            }
        }
    }

    private static void promise9OnTheGraphWithEveryEdge() {
        for (int n = LEAST; n <= MOST; n++) {
            Checked x = full(n);
            for (int u = 0; u < n; u++) {
                x.cycle(u, 2);
            }
        }
    }

    // ---- Promise 10 ----

    // "an edge counts for itself, also where several lead from one component to the same other one"
    private static void promise10SeveralEdgesToTheSameComponentAllCount() {
        Checked x = empty(16);
        for (int u = 0; u < 8; u++) {
            x.next().addEdge(u, (u + 1) % 8);
            x.next().addEdge(8 + u, 8 + (u + 1) % 8);
        }
        x.outerEdges(0);
        int edges = 0;
        for (int u = 0; u < 8; u++) {
            for (int v = 8; v < 16; v++) {
                x.addEdge(u, v, 0);
                edges++;
                x.outerEdges(edges);
            }
        }
        x.components(2);
        x.removeEdge(0, 8, 0);
        x.outerEdges(63);
    }

    private static void promise10SeveralEdgesFromOneVertexToTheSameComponentAllCount() {
        Checked from = graph(3, 1, 2, 2, 1, 0, 1, 0, 2);
        from.outerEdges(2);
        Checked to = graph(3, 0, 1, 1, 0, 0, 2, 1, 2);
        to.outerEdges(2);
    }

    private static void promise10OnTheGraphWithoutEdges() {
        for (int n = LEAST; n <= MOST; n++) {
            empty(n).outerEdges(0);
        }
    }

    private static void promise10OnTheGraphWithEveryEdge() {
        for (int n = LEAST; n <= MOST; n++) {
            full(n).outerEdges(0);
        }
    }

    private static void promise10OnTheGreatestGraphWithoutAWayBack() {
        for (int n = LEAST; n <= MOST; n++) {
            allUpward(n).outerEdges(n * (n - 1) / 2);
        }
    }

    // ---- Promise 11 ----

    // "an order of all components": of a single one there is no next one that it would have to reach.
    private static void promise11TrueForASingleComponent() {
        for (int n = LEAST; n <= MOST; n++) {
            ring(n).inOneLine(true);
        }
    }

    // "in which each of them reaches the one after it": the order need not be that of the numbers.
    private static void promise11TrueForALineInAnyOrder() {
        for (int n = LEAST; n <= MOST; n++) {
            pathUp(n).inOneLine(true);
            pathDown(n).inOneLine(true);
            allUpward(n).inOneLine(true);
        }
        graph(5, 3, 0, 0, 4, 4, 1, 1, 2).inOneLine(true);
        graph(4, 0, 3, 3, 0, 1, 2, 2, 1, 2, 3).inOneLine(true);
    }

    // "of all components": one that stands apart breaks the line, be it the first, the last or another.
    private static void promise11FalseWhereOneStandsApart() {
        for (int n = LEAST; n <= MOST; n++) {
            for (int cut = 0; cut + 1 < n; cut++) {
                Checked x = pathUp(n);
                x.removeEdge(cut, cut + 1, 0);
                x.inOneLine(false);
            }
        }
        graph(4, 0, 3, 3, 0, 1, 2, 2, 1).inOneLine(false);
        twoRings().inOneLine(false);
    }

    // Two that do not reach each other break it, though a third one reaches both or is reached by both.
    private static void promise11FalseForAForkOrAJoin() {
        graph(3, 0, 1, 0, 2).inOneLine(false);
        graph(3, 0, 2, 1, 2).inOneLine(false);
        Checked x = graph(4, 0, 1, 0, 2, 1, 3, 2, 3);
        x.inOneLine(false);
        x.addEdge(2, 1, 0);
        x.inOneLine(true);
        Checked most = allUpward(16);
        most.removeEdge(14, 15, 0);
        most.inOneLine(false);
        most.addEdge(14, 15, 0);
        most.removeEdge(0, 1, 0);
        most.inOneLine(false);
        most.addEdge(0, 1, 0);
        most.removeEdge(0, 15, 0);
        most.inOneLine(true);
    }

    private static void promise11OnTheGraphWithoutEdges() {
        for (int n = LEAST; n <= MOST; n++) {
            empty(n).inOneLine(false);
        }
    }

    private static void promise11OnTheGraphWithEveryEdge() {
        for (int n = LEAST; n <= MOST; n++) {
            full(n).inOneLine(true);
        }
    }

    // ---- Promise 12 ----

    // "a call that is refused (by a code below 0 that is named, or by false) changes nothing"

    private static List<Supplier<Checked>> someGraphs() {
        return List.of(
            () -> empty(2), () -> graph(2, 1, 0), () -> full(2), () -> twoRings(), () -> ring(5),
            () -> empty(16), () -> pathDown(16), () -> allUpward(16), () -> full(16));
    }

    private static String vertexAnswers(Checked x) {
        StringBuilder answers = new StringBuilder();
        answers.append(x.next().components()).append(' ');
        answers.append(x.next().outerEdges()).append(' ');
        answers.append(x.next().inOneLine()).append(' ');
        for (int u = 0; u < x.asked; u++) {
            answers.append(x.next().leader(u)).append(' ');
            answers.append(x.next().componentSize(u)).append(' ');
            answers.append(x.next().height(u)).append(' ');
            answers.append(x.next().cycle(u)).append(' ');
        }
        return answers.toString();
    }

    private static String reachAnswers(Checked x) {
        StringBuilder answers = new StringBuilder();
        for (int u = 0; u < x.asked; u++) {
            for (int v = 0; v < x.asked; v++) {
                answers.append(x.next().reaches(u, v)).append(' ');
            }
        }
        return answers.toString();
    }

    // Taking every edge away tells which ones were there.
    private static String edgeAnswers(Checked x) {
        StringBuilder answers = new StringBuilder();
        for (int u = 0; u < x.asked; u++) {
            for (int v = 0; v < x.asked; v++) {
                answers.append(u == v ? "" : x.next().removeEdge(u, v) + " ");
            }
        }
        return answers.toString();
    }

    // Three objects, as all the questions together are more than 512 calls.
    private static String picture(Supplier<Checked> graph, Consumer<Checked> call) {
        Checked first = graph.get();
        call.accept(first);
        Checked second = graph.get();
        call.accept(second);
        Checked third = graph.get();
        call.accept(third);
        return vertexAnswers(first) + reachAnswers(second) + edgeAnswers(third);
    }

    private static void changesNothing(Supplier<Checked> graph, List<Consumer<Checked>> calls) {
        String before = picture(graph, x -> { });
        for (int i = 0; i < calls.size(); i++) {
            String after = picture(graph, calls.get(i));
            if (!after.equals(before)) {
                tell("new(" + graph.get().asked + "): refused call " + i + " changed " + before + " to " + after);
            }
        }
    }

    private static List<Integer> someOutside(int n) {
        return List.of(-1, -31, LEAST_INT, n, 16, 33, GREATEST_INT);
    }

    private static void promise12AddEdgeAnsweringBadChangesNothing() {
        for (Supplier<Checked> graph : someGraphs()) {
            List<Consumer<Checked>> calls = new ArrayList<>();
            int n = graph.get().asked;
            for (int far : someOutside(n)) {
                calls.add(x -> x.addEdge(far, 0, BAD));
                calls.add(x -> x.addEdge(1, far, BAD));
                calls.add(x -> x.addEdge(far, far, BAD));
            }
            for (int u = 0; u < n; u++) {
                int same = u;
                calls.add(x -> x.addEdge(same, same, BAD));
            }
            changesNothing(graph, calls);
        }
    }

    private static void promise12RemoveEdgeAnsweringBadChangesNothing() {
        for (Supplier<Checked> graph : someGraphs()) {
            List<Consumer<Checked>> calls = new ArrayList<>();
            int n = graph.get().asked;
            for (int far : someOutside(n)) {
                calls.add(x -> x.removeEdge(far, 0, BAD));
                calls.add(x -> x.removeEdge(1, far, BAD));
                calls.add(x -> x.removeEdge(far, far, BAD));
            }
            for (int u = 0; u < n; u++) {
                int same = u;
                calls.add(x -> x.removeEdge(same, same, BAD));
            }
            changesNothing(graph, calls);
        }
    }

    private static void promise12AddEdgeAnsweringNoneChangesNothing() {
        changesNothing(() -> graph(2, 1, 0), List.of(x -> x.addEdge(1, 0, NONE)));
        changesNothing(() -> full(2), List.of(x -> x.addEdge(0, 1, NONE), x -> x.addEdge(1, 0, NONE)));
        changesNothing(() -> twoRings(), List.of(
            x -> x.addEdge(0, 3, NONE), x -> x.addEdge(5, 1, NONE),
            x -> x.addEdge(3, 1, NONE), x -> x.addEdge(5, 2, NONE)));
        changesNothing(() -> ring(16), List.of(x -> x.addEdge(0, 1, NONE), x -> x.addEdge(15, 0, NONE)));
        changesNothing(() -> full(16), List.of(x -> x.addEdge(0, 15, NONE), x -> x.addEdge(15, 14, NONE)));
    }

    private static void promise12RemoveEdgeAnsweringNoneChangesNothing() {
        changesNothing(() -> empty(2), List.of(x -> x.removeEdge(0, 1, NONE), x -> x.removeEdge(1, 0, NONE)));
        changesNothing(() -> graph(2, 1, 0), List.of(x -> x.removeEdge(0, 1, NONE)));
        changesNothing(() -> twoRings(), List.of(
            x -> x.removeEdge(3, 0, NONE), x -> x.removeEdge(1, 3, NONE),
            x -> x.removeEdge(0, 2, NONE), x -> x.removeEdge(6, 0, NONE)));
        changesNothing(() -> ring(16), List.of(x -> x.removeEdge(1, 0, NONE), x -> x.removeEdge(0, 15, NONE)));
        changesNothing(() -> empty(16), List.of(x -> x.removeEdge(0, 15, NONE), x -> x.removeEdge(15, 14, NONE)));
    }

    private static void promise12AQuestionAnsweringBadChangesNothing() {
        for (Supplier<Checked> graph : someGraphs()) {
            List<Consumer<Checked>> calls = new ArrayList<>();
            for (int far : someOutside(graph.get().asked)) {
                calls.add(x -> x.leader(far, BAD));
                calls.add(x -> x.componentSize(far, BAD));
                calls.add(x -> x.height(far, BAD));
                calls.add(x -> x.cycle(far, BAD));
            }
            changesNothing(graph, calls);
        }
    }

    private static void promise12CycleAnsweringNoneChangesNothing() {
        changesNothing(() -> empty(2), List.of(x -> x.cycle(0, NONE), x -> x.cycle(1, NONE)));
        changesNothing(() -> twoRings(), List.of(x -> x.cycle(2, NONE), x -> x.cycle(6, NONE)));
        changesNothing(() -> allUpward(16), List.of(x -> x.cycle(0, NONE), x -> x.cycle(15, NONE)));
    }

    private static void promise12ReachesAnsweringFalseChangesNothing() {
        for (Supplier<Checked> graph : someGraphs()) {
            List<Consumer<Checked>> calls = new ArrayList<>();
            for (int far : someOutside(graph.get().asked)) {
                calls.add(x -> x.reaches(far, 0, false));
                calls.add(x -> x.reaches(1, far, false));
                calls.add(x -> x.reaches(far, far, false));
            }
            changesNothing(graph, calls);
        }
        changesNothing(() -> empty(2), List.of(x -> x.reaches(0, 1, false), x -> x.reaches(1, 0, false)));
        changesNothing(() -> twoRings(), List.of(x -> x.reaches(2, 0, false), x -> x.reaches(1, 3, false)));
        changesNothing(() -> pathDown(16), List.of(x -> x.reaches(0, 15, false)));
    }

    private static void promise12InOneLineAnsweringFalseChangesNothing() {
        changesNothing(() -> empty(2), List.of(x -> x.inOneLine(false)));
        changesNothing(() -> twoRings(), List.of(x -> x.inOneLine(false)));
        changesNothing(() -> empty(16), List.of(x -> x.inOneLine(false)));
    }

    // The document tells no change for a question, so one that is answered changes nothing either.
    private static void promise12AnAnsweredQuestionChangesNothing() {
        for (Supplier<Checked> graph : someGraphs()) {
            int last = graph.get().asked - 1;
            changesNothing(graph, List.of(
                x -> x.next().components(), x -> x.next().outerEdges(), x -> x.next().inOneLine(),
                x -> x.next().leader(last), x -> x.next().componentSize(last), x -> x.next().height(last),
                x -> x.next().cycle(last), x -> x.next().reaches(0, last), x -> x.next().reaches(last, 0)));
        }
    }
}
