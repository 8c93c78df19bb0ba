// "In every method the tests are made in the order named": where two refusals could be answered, the first one is.
public final class OrderOfTestsTest {
    private static final int MIN = Integer.MIN_VALUE;
    private static final int MAX = Integer.MAX_VALUE;
    private static final int[] WRONG_VALUES = {-1001, 1001, MIN, MAX};

    public static void main(String[] args) {
        Due.sentence("edge: not good comes before the same", OrderOfTestsTest::edgeOfTwoEqualBadNodes);
        Due.sentence("edge: -2 if they are the same", OrderOfTestsTest::edgeOfTwoEqualGoodNodes);
        Due.sentence("edge: one of two different nodes is not good", OrderOfTestsTest::edgeOfDifferentNodes);
        Due.sentence("start: not good comes before the value", OrderOfTestsTest::startOfBadNode);
        Due.sentence("start: a good node with a wrong value", OrderOfTestsTest::startOfGoodNode);
        Due.sentence("reached: not good comes before no such round", OrderOfTestsTest::reachedOfBadNode);
        Due.sentence("reached: a good node with no such round", OrderOfTestsTest::reachedOfGoodNode);
        Due.end();
    }

    private static int[] badNodes(int n) {
        return new int[] {-1, n, n + 1, 8, 32, MIN, MAX};
    }

    private static void edgeOfTwoEqualBadNodes() {
        for (int n = 2; n <= 8; n++) {
            Run x = new Run(n);
            for (int bad : badNodes(n)) {
                x.edge(bad, bad, 1).due(-1);
                x.edge(bad, bad, 0).due(-1);
            }
        }
    }

    private static void edgeOfTwoEqualGoodNodes() {
        for (int n = 2; n <= 8; n++) {
            Run x = new Run(n);
            for (int v = 0; v < n; v++) {
                x.edge(v, v, 1).due(-2);
                x.edge(v, v, 0).due(-2);
                x.edge(v, v, MIN).due(-2);
            }
        }
    }

    private static void edgeOfDifferentNodes() {
        for (int n = 2; n <= 8; n++) {
            Run x = new Run(n);
            for (int bad : badNodes(n)) {
                x.edge(bad, n - 1, 1).due(-1);
                x.edge(n - 1, bad, 1).due(-1);
                x.edge(bad, -3, 1).due(-1);
            }
        }
    }

    private static void startOfBadNode() {
        for (int n = 2; n <= 8; n++) {
            Run x = new Run(n);
            for (int bad : badNodes(n)) {
                for (int value : WRONG_VALUES) {
                    x.start(bad, value).due(-1);
                }
            }
        }
    }

    private static void startOfGoodNode() {
        for (int n = 2; n <= 8; n++) {
            Run x = new Run(n);
            for (int value : WRONG_VALUES) {
                x.start(0, value).due(-2);
                x.start(n - 1, value).due(-2);
            }
        }
    }

    private static void reachedOfBadNode() {
        for (int n = 2; n <= 8; n++) {
            Run x = new Run(n);
            for (int bad : badNodes(n)) {
                // No node has the state 7 after any round, and every good one has 0.
                x.reached(bad, 7).due(-1);
                x.reached(bad, 0).due(-1);
                x.reached(bad, MIN).due(-1);
                x.reached(bad, MAX).due(-1);
            }
        }
    }

    private static void reachedOfGoodNode() {
        for (int n = 2; n <= 8; n++) {
            Run x = new Run(n);
            for (int v = 0; v < n; v++) {
                x.reached(v, 7).due(-2);
                x.reached(v, MIN).due(-2);
                x.reached(v, MAX).due(-2);
            }
        }
    }
}
