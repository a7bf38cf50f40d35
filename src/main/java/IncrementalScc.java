/**
 * Strong components of a directed graph under insertion and removal of edges.
 *
 * A set of vertices is an int with bit v for vertex v. The edges are the state; what is reached
 * and the components are worked out anew after each change, so that no question changes anything.
 */
public final class IncrementalScc {
    public static final int BAD = -1;
    public static final int NONE = -2;

    private static final int LEAST_VERTICES = 2;
    private static final int MOST_VERTICES = 16;

    private final int vertexCount;
    private final int[] edgesFrom = new int[MOST_VERTICES];
    private final int[] reachedFrom = new int[MOST_VERTICES];
    private final int[] componentOf = new int[MOST_VERTICES];
    private int componentCount;

    public IncrementalScc(int vertices) {
        vertexCount = clampVertices(vertices);
        rebuild();
    }

    public int addEdge(int u, int v) {
        if (!isPair(u, v)) {
            return BAD;
        }
        if (holds(edgesFrom[u], v)) {
            return NONE;
        }
        int before = componentCount;
        edgesFrom[u] |= 1 << v;
        rebuild();
        return before - componentCount;
    }

    public int removeEdge(int u, int v) {
        if (!isPair(u, v)) {
            return BAD;
        }
        if (!holds(edgesFrom[u], v)) {
            return NONE;
        }
        int before = componentCount;
        edgesFrom[u] &= ~(1 << v);
        rebuild();
        return componentCount - before;
    }

    public int components() {
        return componentCount;
    }

    public int leader(int u) {
        if (!isVertex(u)) {
            return BAD;
        }
        return smallestWith(u);
    }

    public int componentSize(int u) {
        if (!isVertex(u)) {
            return BAD;
        }
        return sizeOf(componentOf[u]);
    }

    public boolean reaches(int u, int v) {
        return isVertex(u) && isVertex(v) && holds(reachedFrom[u], v);
    }

    public int height(int u) {
        if (!isVertex(u)) {
            return BAD;
        }
        int highest = 0;
        int atLeast = allVertices();
        for (int h = 1; h < vertexCount; h++) {
            atLeast = reachedFromOtherComponents(atLeast);
            if (holds(atLeast, u)) {
                highest = h;
            }
        }
        return highest;
    }

    public int cycle(int u) {
        if (!isVertex(u)) {
            return BAD;
        }
        int ends = edgesFrom[u];
        // A shortest walk back to u meets no other vertex twice, so it has at most N edges.
        for (int length = 1; length <= vertexCount; length++) {
            if (holds(ends, u)) {
                return length;
            }
            ends = oneEdgeFurther(ends);
        }
        return NONE;
    }

    public int outerEdges() {
        int count = 0;
        for (int u = 0; u < vertexCount; u++) {
            count += sizeOf(edgesFrom[u] & ~componentOf[u]);
        }
        return count;
    }

    public boolean inOneLine() {
        // The order exists iff no two vertices are strangers: then "reaches" sorts the components.
        for (int u = 0; u < vertexCount; u++) {
            for (int v = 0; v < u; v++) {
                if (!holds(reachedFrom[u], v) && !holds(reachedFrom[v], u)) {
                    return false;
                }
            }
        }
        return true;
    }

    private static int clampVertices(int vertices) {
        if (vertices < LEAST_VERTICES) {
            return LEAST_VERTICES;
        }
        if (vertices > MOST_VERTICES) {
            return MOST_VERTICES;
        }
        return vertices;
    }

    private static boolean holds(int set, int v) {
        return (set >> v & 1) != 0;
    }

    private boolean isVertex(int u) {
        return 0 <= u && u < vertexCount;
    }

    private boolean isPair(int u, int v) {
        return isVertex(u) && isVertex(v) && u != v;
    }

    private int allVertices() {
        return (1 << vertexCount) - 1;
    }

    private int sizeOf(int set) {
        int size = 0;
        for (int v = 0; v < vertexCount; v++) {
            if (holds(set, v)) {
                size++;
            }
        }
        return size;
    }

    private int smallestWith(int u) {
        for (int v = 0; v < u; v++) {
            if (holds(componentOf[u], v)) {
                return v;
            }
        }
        return u;
    }

    private int oneEdgeFurther(int set) {
        int further = 0;
        for (int u = 0; u < vertexCount; u++) {
            if (holds(set, u)) {
                further |= edgesFrom[u];
            }
        }
        return further;
    }

    // Longer walks may stand for single outer edges here: a walk that leaves a component passes
    // through more components, never fewer, so the greatest height is the same.
    private int reachedFromOtherComponents(int set) {
        int reached = 0;
        for (int u = 0; u < vertexCount; u++) {
            if (holds(set, u)) {
                reached |= reachedFrom[u] & ~componentOf[u];
            }
        }
        return reached;
    }

    private void rebuild() {
        findReached();
        findComponents();
        countComponents();
    }

    private void findReached() {
        for (int u = 0; u < vertexCount; u++) {
            reachedFrom[u] = edgesFrom[u] | 1 << u;
        }
        // The way point is the outer loop: after it, walks through vertices up to it are known.
        for (int way = 0; way < vertexCount; way++) {
            for (int u = 0; u < vertexCount; u++) {
                if (holds(reachedFrom[u], way)) {
                    reachedFrom[u] |= reachedFrom[way];
                }
            }
        }
    }

    private void findComponents() {
        for (int u = 0; u < vertexCount; u++) {
            int component = 0;
            for (int v = 0; v < vertexCount; v++) {
                if (holds(reachedFrom[u], v) && holds(reachedFrom[v], u)) {
                    component |= 1 << v;
                }
            }
            componentOf[u] = component;
        }
    }

    private void countComponents() {
        componentCount = 0;
        for (int u = 0; u < vertexCount; u++) {
            if (smallestWith(u) == u) {
                componentCount++;
            }
        }
    }
}
