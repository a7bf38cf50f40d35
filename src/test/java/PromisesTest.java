// Each promise of the document: ordinary inputs, the edges that it names, and wrong inputs.
public final class PromisesTest {
    private static final int BAD = -1;
    private static final int NONE = -2;
    private static final int[] FAR_NUMBERS = {
        -1, -2, -16, -31, -32, -33, Integer.MIN_VALUE, Integer.MIN_VALUE + 1,
        16, 17, 31, 32, 33, 64, 65536, Integer.MAX_VALUE - 1, Integer.MAX_VALUE
    };

    private static int wrong = 0;

    public static void main(String[] args) {
        constants();
        promise1NewObject();
        promise2AddEdge();
        promise3RemoveEdge();
        promise4Components();
        promise5Leader();
        promise6ComponentSize();
        promise7Reaches();
        promise8Height();
        promise9Cycle();
        promise10OuterEdges();
        promise11InOneLine();
        promise12RefusedCallsChangeNothing();
        lastOf512Calls();
        System.out.println(wrong == 0 ? "all answers are as due" : wrong + " answers are not as due");
        if (wrong != 0) {
            System.exit(1);
        }
    }

    private static void due(String what, long got, long want) {
        if (got != want) {
            wrong++;
            System.out.println(what + " answered " + got + ", due is " + want);
        }
    }

    private static void due(String what, boolean got, boolean want) {
        if (got != want) {
            wrong++;
            System.out.println(what + " answered " + got + ", due is " + want);
        }
    }

    private static IncrementalScc graph(int vertices, int... ends) {
        IncrementalScc x = new IncrementalScc(vertices);
        for (int i = 0; i < ends.length; i += 2) {
            x.addEdge(ends[i], ends[i + 1]);
        }
        return x;
    }

    private static IncrementalScc ring(int vertices) {
        IncrementalScc x = new IncrementalScc(vertices);
        for (int u = 0; u < vertices; u++) {
            x.addEdge(u, (u + 1) % vertices);
        }
        return x;
    }

    private static IncrementalScc path(int vertices) {
        IncrementalScc x = new IncrementalScc(vertices);
        for (int u = 0; u + 1 < vertices; u++) {
            x.addEdge(u, u + 1);
        }
        return x;
    }

    // Two rings {0, 3, 4} and {1, 5}, a lone 2 and a lone 6; two edges from the first ring to the second.
    private static IncrementalScc twoRings() {
        return graph(7, 0, 3, 3, 4, 4, 0, 1, 5, 5, 1, 3, 1, 4, 1, 5, 2);
    }

    private static void constants() {
        due("BAD", IncrementalScc.BAD, BAD);
        due("NONE", IncrementalScc.NONE, NONE);
    }

    private static void promise1NewObject() {
        int[] asked = {Integer.MIN_VALUE, -1, 0, 1, 2, 3, 9, 15, 16, 17, 32, 65538, Integer.MAX_VALUE};
        int[] given = {2, 2, 2, 2, 2, 3, 9, 15, 16, 16, 16, 16, 16};
        for (int i = 0; i < asked.length; i++) {
            String name = "1: new(" + asked[i] + ")";
            IncrementalScc x = new IncrementalScc(asked[i]);
            int n = given[i];
            due(name + ".components()", x.components(), n);
            due(name + ".outerEdges()", x.outerEdges(), 0);
            due(name + ".leader(N-1)", x.leader(n - 1), n - 1);
            due(name + ".leader(N)", x.leader(n), BAD);
            // An object of its own: both together would be more than 512 calls.
            IncrementalScc y = new IncrementalScc(asked[i]);
            for (int u = 0; u < n; u++) {
                for (int v = 0; v < n; v++) {
                    due(name + ".reaches(" + u + ", " + v + ")", x.reaches(u, v), u == v);
                    due(name + ".removeEdge(" + u + ", " + v + ")", y.removeEdge(u, v), u == v ? BAD : NONE);
                }
            }
        }
        IncrementalScc first = graph(3, 0, 1, 1, 0);
        IncrementalScc second = new IncrementalScc(3);
        due("1: a second object's components()", second.components(), 3);
        due("1: the first object's components()", first.components(), 2);
    }

    private static void promise2AddEdge() {
        IncrementalScc x = new IncrementalScc(5);
        due("2: first edge", x.addEdge(0, 1), 0);
        due("2: the same edge again", x.addEdge(0, 1), NONE);
        due("2: the edge back", x.addEdge(1, 0), 1);
        due("2: the edge back again", x.addEdge(1, 0), NONE);
        due("2: on from the ring", x.addEdge(1, 4), 0);
        due("2: on to 3", x.addEdge(4, 3), 0);
        due("2: back to the ring", x.addEdge(3, 0), 2);
        due("2: a chord", x.addEdge(4, 1), 0);
        due("2: an edge from 2", x.addEdge(2, 3), 0);
        due("2: an edge to 2", x.addEdge(0, 2), 1);
        due("2: components()", x.components(), 1);

        IncrementalScc whole = path(16);
        due("2: closing the greatest ring", whole.addEdge(15, 0), 15);

        IncrementalScc smallest = new IncrementalScc(2);
        due("2: N = 2", smallest.addEdge(1, 0), 0);
        due("2: N = 2, back", smallest.addEdge(0, 1), 1);
        due("2: N = 2, vertex 2", smallest.addEdge(0, 2), BAD);

        wrongPairsOfAddEdge(x, 5);
        wrongPairsOfAddEdge(whole, 16);
    }

    private static void wrongPairsOfAddEdge(IncrementalScc x, int n) {
        for (int far : FAR_NUMBERS) {
            due("2: addEdge(0, " + far + ")", x.addEdge(0, far), BAD);
            due("2: addEdge(" + far + ", 0)", x.addEdge(far, 0), BAD);
            due("2: addEdge(" + far + ", " + far + ")", x.addEdge(far, far), BAD);
        }
        due("2: addEdge(N, 0)", x.addEdge(n, 0), BAD);
        due("2: addEdge(0, N)", x.addEdge(0, n), BAD);
        for (int u = 0; u < n; u++) {
            due("2: addEdge(" + u + ", " + u + ")", x.addEdge(u, u), BAD);
        }
    }

    private static void promise3RemoveEdge() {
        IncrementalScc x = graph(5, 0, 1, 1, 2, 2, 0, 1, 0, 2, 3, 3, 4);
        due("3: an outer edge", x.removeEdge(3, 4), 0);
        due("3: the same edge again", x.removeEdge(3, 4), NONE);
        due("3: an edge that only stands the other way", x.removeEdge(3, 2), NONE);
        due("3: an edge with another way round", x.removeEdge(1, 0), 0);
        due("3: an edge of the last ring", x.removeEdge(2, 0), 2);
        due("3: components()", x.components(), 5);
        due("3: the edge put back", x.addEdge(2, 0), 2);

        IncrementalScc two = graph(4, 0, 1, 1, 0, 1, 2, 2, 3, 3, 2, 2, 0);
        due("3: one component falls into two", two.removeEdge(1, 2), 1);
        due("3: the size of what is left", two.componentSize(3), 2);

        IncrementalScc whole = ring(16);
        due("3: opening the greatest ring", whole.removeEdge(7, 8), 15);
        due("3: reaches(8, 7)", whole.reaches(8, 7), true);
        due("3: reaches(7, 8)", whole.reaches(7, 8), false);

        wrongPairsOfRemoveEdge(x, 5);
        wrongPairsOfRemoveEdge(whole, 16);
    }

    private static void wrongPairsOfRemoveEdge(IncrementalScc x, int n) {
        for (int far : FAR_NUMBERS) {
            due("3: removeEdge(0, " + far + ")", x.removeEdge(0, far), BAD);
            due("3: removeEdge(" + far + ", 0)", x.removeEdge(far, 0), BAD);
            due("3: removeEdge(" + far + ", " + far + ")", x.removeEdge(far, far), BAD);
        }
        due("3: removeEdge(N, 0)", x.removeEdge(n, 0), BAD);
        due("3: removeEdge(0, N)", x.removeEdge(0, n), BAD);
        for (int u = 0; u < n; u++) {
            due("3: removeEdge(" + u + ", " + u + ")", x.removeEdge(u, u), BAD);
        }
    }

    private static void promise4Components() {
        due("4: no edges", new IncrementalScc(9).components(), 9);
        due("4: a path", path(9).components(), 9);
        due("4: a ring", ring(9).components(), 1);
        due("4: two rings and two lone ones", twoRings().components(), 4);
    }

    private static void promise5Leader() {
        IncrementalScc x = twoRings();
        int[] leaders = {0, 1, 2, 0, 0, 1, 6};
        for (int u = 0; u < 7; u++) {
            due("5: leader(" + u + ")", x.leader(u), leaders[u]);
        }
        IncrementalScc high = graph(16, 15, 14, 14, 15);
        due("5: leader(15)", high.leader(15), 14);
        due("5: leader(14)", high.leader(14), 14);
        due("5: leader(N)", x.leader(7), BAD);
        for (int far : FAR_NUMBERS) {
            due("5: leader(" + far + ")", x.leader(far), BAD);
            due("5: leader(" + far + ") of 16", high.leader(far), BAD);
        }
    }

    private static void promise6ComponentSize() {
        IncrementalScc x = twoRings();
        int[] sizes = {3, 2, 1, 3, 3, 2, 1};
        for (int u = 0; u < 7; u++) {
            due("6: componentSize(" + u + ")", x.componentSize(u), sizes[u]);
        }
        IncrementalScc whole = ring(16);
        due("6: the greatest ring", whole.componentSize(15), 16);
        due("6: componentSize(N)", x.componentSize(7), BAD);
        for (int far : FAR_NUMBERS) {
            due("6: componentSize(" + far + ")", x.componentSize(far), BAD);
            due("6: componentSize(" + far + ") of 16", whole.componentSize(far), BAD);
        }
    }

    private static void promise7Reaches() {
        IncrementalScc x = twoRings();
        due("7: within a ring", x.reaches(3, 0), true);
        due("7: from ring to ring", x.reaches(0, 5), true);
        due("7: and on", x.reaches(0, 2), true);
        due("7: not back", x.reaches(2, 5), false);
        due("7: not from ring back to ring", x.reaches(1, 3), false);
        due("7: a lone vertex itself", x.reaches(6, 6), true);
        due("7: a lone vertex no other", x.reaches(6, 0), false);
        due("7: no other a lone vertex", x.reaches(0, 6), false);
        IncrementalScc down = new IncrementalScc(16);
        for (int u = 15; u > 0; u--) {
            down.addEdge(u, u - 1);
        }
        due("7: the longest walk", down.reaches(15, 0), true);
        due("7: not the longest walk back", down.reaches(0, 15), false);
        due("7: reaches(N, N)", x.reaches(7, 7), false);
        for (int far : FAR_NUMBERS) {
            due("7: reaches(" + far + ", 0)", x.reaches(far, 0), false);
            due("7: reaches(15, " + far + ") of 16", down.reaches(15, far), false);
            due("7: reaches(" + far + ", " + far + ")", x.reaches(far, far), false);
        }
    }

    private static void promise8Height() {
        IncrementalScc x = twoRings();
        int[] heights = {0, 1, 2, 0, 0, 1, 0};
        for (int u = 0; u < 7; u++) {
            due("8: height(" + u + ")", x.height(u), heights[u]);
        }
        IncrementalScc longAndShort = graph(5, 4, 0, 4, 3, 3, 1, 1, 0, 0, 2);
        due("8: the longer way counts", longAndShort.height(0), 3);
        due("8: and on from there", longAndShort.height(2), 4);
        due("8: the beginning", longAndShort.height(4), 0);
        IncrementalScc throughRing = graph(6, 0, 1, 1, 2, 2, 3, 3, 1, 3, 4);
        due("8: a ring counts once", throughRing.height(4), 2);
        due("8: all of a ring alike", throughRing.height(3), 1);
        due("8: one that is not reached", throughRing.height(5), 0);
        due("8: the greatest ring", ring(16).height(9), 0);
        IncrementalScc longest = path(16);
        for (int u = 0; u < 16; u++) {
            due("8: height(" + u + ") on the longest path", longest.height(u), u);
        }
        due("8: height(N)", x.height(7), BAD);
        for (int far : FAR_NUMBERS) {
            due("8: height(" + far + ")", x.height(far), BAD);
            due("8: height(" + far + ") of 16", longest.height(far), BAD);
        }
    }

    private static void promise9Cycle() {
        IncrementalScc x = twoRings();
        int[] cycles = {3, 2, NONE, 3, 3, 2, NONE};
        for (int u = 0; u < 7; u++) {
            due("9: cycle(" + u + ")", x.cycle(u), cycles[u]);
        }
        IncrementalScc leadsIn = graph(4, 0, 1, 1, 2, 2, 1, 2, 3);
        due("9: one that only leads to a ring", leadsIn.cycle(0), NONE);
        due("9: one that a ring only leads to", leadsIn.cycle(3), NONE);
        IncrementalScc eight = graph(6, 0, 1, 1, 2, 2, 0, 2, 3, 3, 4, 4, 5, 5, 2);
        due("9: the shorter of two rings", eight.cycle(2), 3);
        due("9: the longer of two rings", eight.cycle(4), 4);
        IncrementalScc whole = ring(16);
        due("9: the greatest ring", whole.cycle(15), 16);
        due("9: the smallest", graph(2, 0, 1, 1, 0).cycle(1), 2);
        due("9: cycle(N)", x.cycle(7), BAD);
        for (int far : FAR_NUMBERS) {
            due("9: cycle(" + far + ")", x.cycle(far), BAD);
            due("9: cycle(" + far + ") of 16", whole.cycle(far), BAD);
        }
    }

    private static void promise10OuterEdges() {
        due("10: no edges", new IncrementalScc(4).outerEdges(), 0);
        due("10: several to the same component", twoRings().outerEdges(), 3);
        due("10: a ring", ring(16).outerEdges(), 0);
        due("10: a path", path(16).outerEdges(), 15);
        IncrementalScc most = new IncrementalScc(16);
        for (int u = 0; u < 16; u++) {
            for (int v = u + 1; v < 16; v++) {
                most.addEdge(u, v);
            }
        }
        due("10: the most that can be", most.outerEdges(), 120);
        most.addEdge(15, 0);
        due("10: all in one component", most.outerEdges(), 0);
        most.removeEdge(15, 0);
        most.removeEdge(3, 9);
        due("10: one less", most.outerEdges(), 119);
    }

    private static void promise11InOneLine() {
        due("11: no edges", new IncrementalScc(2).inOneLine(), false);
        due("11: one component", ring(5).inOneLine(), true);
        due("11: a path", path(16).inOneLine(), true);
        due("11: two rings, a lone one", twoRings().inOneLine(), false);
        due("11: a fork", graph(3, 0, 1, 0, 2).inOneLine(), false);
        due("11: two into one", graph(3, 0, 2, 1, 2).inOneLine(), false);
        due("11: a fork that joins", graph(4, 0, 1, 0, 2, 1, 3, 2, 3).inOneLine(), false);
        due("11: the fork's arms tied", graph(4, 0, 1, 0, 2, 1, 3, 2, 3, 2, 1).inOneLine(), true);
        due("11: ring to ring", graph(4, 0, 3, 3, 0, 1, 2, 2, 1, 2, 3).inOneLine(), true);
        due("11: ring beside ring", graph(4, 0, 3, 3, 0, 1, 2, 2, 1).inOneLine(), false);
        IncrementalScc x = path(16);
        x.removeEdge(14, 15);
        due("11: the last one lost", x.inOneLine(), false);
    }

    private static void promise12RefusedCallsChangeNothing() {
        IncrementalScc x = twoRings();
        long before = picture(x, 7);
        int[] wrongNumbers = {-1, 7, 16, 32, -32, Integer.MIN_VALUE, Integer.MAX_VALUE};
        for (int far : wrongNumbers) {
            due("12: addEdge(6, far)", x.addEdge(6, far), BAD);
            due("12: addEdge(far, 6)", x.addEdge(far, 6), BAD);
            due("12: removeEdge(0, far)", x.removeEdge(0, far), BAD);
            due("12: removeEdge(far, 3)", x.removeEdge(far, 3), BAD);
            due("12: reaches(far, 0)", x.reaches(far, 0), false);
            due("12: leader(far)", x.leader(far), BAD);
            due("12: componentSize(far)", x.componentSize(far), BAD);
            due("12: height(far)", x.height(far), BAD);
            due("12: cycle(far)", x.cycle(far), BAD);
        }
        due("12: addEdge(2, 2)", x.addEdge(2, 2), BAD);
        due("12: removeEdge(3, 3)", x.removeEdge(3, 3), BAD);
        due("12: addEdge of one that is there", x.addEdge(0, 3), NONE);
        due("12: removeEdge of one that is not there", x.removeEdge(3, 0), NONE);
        due("12: cycle(2)", x.cycle(2), NONE);
        due("12: reaches(2, 0)", x.reaches(2, 0), false);
        due("12: inOneLine()", x.inOneLine(), false);
        due("12: everything together", picture(x, 7), before);
        due("12: the edge is taken away at once", x.removeEdge(0, 3), 2);
        due("12: and is not there twice", x.removeEdge(0, 3), NONE);
        due("12: the edge that was not there can be added", x.addEdge(3, 0), 0);
        due("12: and the one taken away put back", x.addEdge(0, 3), 2);
    }

    private static long picture(IncrementalScc x, int n) {
        long sum = x.components() * 31L + x.outerEdges();
        for (int u = 0; u < n; u++) {
            sum = sum * 31 + x.leader(u);
            sum = sum * 31 + x.componentSize(u);
            sum = sum * 31 + x.height(u);
            sum = sum * 31 + x.cycle(u);
            for (int v = 0; v < n; v++) {
                sum = sum * 31 + (x.reaches(u, v) ? 1 : 0);
            }
        }
        return sum * 31 + (x.inOneLine() ? 1 : 0);
    }

    private static void lastOf512Calls() {
        IncrementalScc x = new IncrementalScc(16);
        for (int call = 0; call < 510; call += 2) {
            due("call " + call + ": addEdge(0, 1)", x.addEdge(0, 1), 0);
            due("call " + call + ": removeEdge(0, 1)", x.removeEdge(0, 1), 0);
        }
        due("call 511: addEdge(1, 0)", x.addEdge(1, 0), 0);
        due("call 512: addEdge(0, 1)", x.addEdge(0, 1), 1);
    }
}
