// Rules 7 and 11 of LANGUAGE.md: no call ever throws or fails to end, for any arguments in any
// state, and the same calls always give the same answers. What a call answers is left to the other
// tests, so these runs may go on past the 512th call, where the document leaves the answers free.
public final class NeverThrowsTest {
    private static final int CALLS = 20000;
    private static final int METHODS = 10;
    private static final int[] EDGE_NUMBERS = {
        Integer.MIN_VALUE, Integer.MIN_VALUE + 1, -65536, -33, -32, -31, -17, -16, -2, -1,
        0, 1, 2, 15, 16, 17, 31, 32, 33, 65536, Integer.MAX_VALUE - 1, Integer.MAX_VALUE
    };

    private static long seed = 20261116L;

    public static void main(String[] args) {
        int wrong = 0;
        for (int vertices : EDGE_NUMBERS) {
            wrong += differences(vertices);
        }
        for (int vertices = 3; vertices < 15; vertices++) {
            wrong += differences(vertices);
        }
        System.out.println(wrong == 0 ? "every call ended, with the same answer twice" : wrong + " answers differ");
        if (wrong != 0) {
            System.exit(1);
        }
    }

    private static int differences(int vertices) {
        IncrementalScc first = new IncrementalScc(vertices);
        IncrementalScc second = new IncrementalScc(vertices);
        int differences = 0;
        for (int call = 1; call <= CALLS; call++) {
            int method = next(METHODS);
            int u = argument();
            int v = argument();
            int got = answer(first, method, u, v, call);
            int again = answer(second, method, u, v, call);
            if (got != again) {
                differences++;
                System.out.println("new(" + vertices + "), call " + call + ": " + got + ", then " + again);
            }
        }
        return differences;
    }

    // The same numbers in every run of the test, so that a failure can be seen again.
    private static int next(int bound) {
        seed = seed * 6364136223846793005L + 1442695040888963407L;
        return (int) ((seed >>> 33) % bound);
    }

    // Mostly vertices, so that the graph does change between the wrong numbers.
    private static int argument() {
        return next(4) == 0 ? EDGE_NUMBERS[next(EDGE_NUMBERS.length)] : next(16);
    }

    private static int answer(IncrementalScc x, int method, int u, int v, int call) {
        try {
            return answer(x, method, u, v);
        } catch (RuntimeException | Error thrown) {
            throw new IllegalStateException("call " + call + ", method " + method + ", (" + u + ", " + v + ")", thrown);
        }
    }

    private static int answer(IncrementalScc x, int method, int u, int v) {
        return switch (method) {
            case 0 -> x.addEdge(u, v);
            case 1 -> x.removeEdge(u, v);
            case 2 -> x.components();
            case 3 -> x.leader(u);
            case 4 -> x.componentSize(u);
            case 5 -> x.reaches(u, v) ? 1 : 0;
            case 6 -> x.height(u);
            case 7 -> x.cycle(u);
            case 8 -> x.outerEdges();
            default -> x.inOneLine() ? 1 : 0;
        };
    }
}
