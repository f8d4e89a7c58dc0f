/** Promises 20 to 25 and 27: node, arc, tokens, clear, dead, turn and helps. */
final class RingsTest {
    private static final Due DUE = new Due();

    public static void main(String[] args) {
        nodes();
        arcs();
        tokensOfArcs();
        clearing();
        deadRings();
        turnOfRings();
        lowestTerms();
        manyRings();
        helping();
        DUE.finish();
    }

    private static GateWalk net(int[] delays, int[][] arcs) {
        GateWalk g = new GateWalk();
        for (int delay : delays) {
            g.node(delay);
        }
        for (int[] arc : arcs) {
            g.arc(arc[0], arc[1], arc[2]);
        }
        return g;
    }

    private static void turnIs(GateWalk g, long top, long bottom) {
        DUE.is("turn(0)", g.turn(0), top);
        DUE.is("turn(1)", g.turn(1), bottom);
    }

    private static void nodes() {
        GateWalk g = new GateWalk();
        DUE.is("node(-1)", g.node(-1), -1);
        DUE.is("node(101)", g.node(101), -1);
        DUE.is("node(min)", g.node(Integer.MIN_VALUE), -1);
        DUE.is("refused ones are none", g.count(4), 0);
        for (int i = 0; i < 10; i++) {
            DUE.is("node " + i, g.node(i == 0 ? 0 : 100), i);
        }
        DUE.is("an eleventh", g.node(5), -1);
        DUE.is("count(4)", g.count(4), 10);
    }

    private static void arcs() {
        GateWalk g = new GateWalk();
        DUE.is("no nodes", g.arc(0, 0, 1), -1);
        g.node(1);
        g.node(2);
        int[][] wrong = {{-1, 0, 0}, {0, -1, 0}, {2, 0, 0}, {0, 2, 0}, {0, 1, -1}, {0, 1, 10}};
        for (int[] arc : wrong) {
            DUE.is("arc", g.arc(arc[0], arc[1], arc[2]), -1);
        }
        DUE.is("count(5)", g.count(5), 0);
        for (int i = 0; i < 20; i++) {
            DUE.is("arc " + i, g.arc(i % 2, 1, i % 10), i);
        }
        DUE.is("a twenty-first", g.arc(0, 1, 1), -1);
        DUE.is("count(5)", g.count(5), 20);
    }

    private static void tokensOfArcs() {
        GateWalk g = net(new int[] {10}, new int[][] {{0, 0, 1}});
        DUE.is("no such arc", g.tokens(1, 1), false);
        DUE.is("no such arc", g.tokens(-1, 1), false);
        DUE.is("-1 tokens", g.tokens(0, -1), false);
        DUE.is("10 tokens", g.tokens(0, 10), false);
        turnIs(g, 10, 1);
        DUE.is("9 tokens", g.tokens(0, 9), true);
        turnIs(g, 10, 9);
        DUE.is("9 again", g.tokens(0, 9), true);
        DUE.is("0 tokens", g.tokens(0, 0), true);
        turnIs(g, -1, -1);
        DUE.is("dead", g.dead(), 1);
    }

    private static void clearing() {
        GateWalk g = net(new int[] {3, 4}, new int[][] {{0, 1, 1}, {1, 0, 1}});
        Due.feed(g, "a=a'");
        turnIs(g, 7, 2);
        g.clear();
        DUE.is("count(4)", g.count(4), 0);
        DUE.is("count(5)", g.count(5), 0);
        DUE.is("the tape stays", g.count(6), 4);
        turnIs(g, -1, -1);
        DUE.is("no arc", g.tokens(0, 1), false);
        DUE.is("no node", g.arc(0, 0, 1), -1);
        DUE.noTime(g, 0, 1);
        DUE.is("numbers begin anew", g.node(5), 0);
        DUE.is("and arcs", g.arc(0, 0, 2), 0);
        turnIs(g, 5, 2);
        DUE.is("a circuit", g.circuit(0), true);
        DUE.is("leaves nodes alone", g.count(4), 1);
        g.clear();
        DUE.is("clear leaves the circuit alone", g.states(), 2);
    }

    private static void deadRings() {
        GateWalk g = net(new int[] {1, 1, 1}, new int[][] {{0, 1, 0}, {1, 2, 0}});
        DUE.is("a chain", g.dead(), 0);
        g.arc(2, 0, 1);
        DUE.is("a ring with a token", g.dead(), 0);
        g.arc(0, 2, 0);
        DUE.is("two ways", g.dead(), 0);
        g.arc(2, 1, 0);
        DUE.is("a ring behind", g.dead(), 1);
        turnIs(g, -1, -1);
        g.tokens(4, 1);
        DUE.is("alive again", g.dead(), 0);
        g.arc(1, 1, 0);
        DUE.is("a loop", g.dead(), 1);
        DUE.is("helps()", g.helps(), -1);
        GateWalk zero = net(new int[] {0}, new int[][] {{0, 0, 0}});
        DUE.is("without delay too", zero.dead(), 1);
        turnIs(zero, -1, -1);
    }

    private static void turnOfRings() {
        GateWalk g = net(new int[] {5, 7, 11}, new int[][] {{0, 1, 1}, {1, 2, 0}});
        turnIs(g, -1, -1);
        g.arc(2, 0, 1);
        turnIs(g, 23, 2);
        g.arc(1, 0, 0);
        turnIs(g, 12, 1);
        g.arc(2, 2, 1);
        turnIs(g, 12, 1);
        g.tokens(3, 4);
        turnIs(g, 23, 2);
        g.tokens(2, 9);
        turnIs(g, 11, 1);
        DUE.is("turn(2)", g.turn(2), -1);
        DUE.is("turn(-1)", g.turn(-1), -1);
        g.node(100);
        turnIs(g, 11, 1);
        g.arc(3, 3, 8);
        turnIs(g, 25, 2);
    }

    private static void lowestTerms() {
        turnIs(net(new int[] {6}, new int[][] {{0, 0, 4}}), 3, 2);
        turnIs(net(new int[] {8}, new int[][] {{0, 0, 4}}), 2, 1);
        turnIs(net(new int[] {0}, new int[][] {{0, 0, 4}}), 0, 1);
        turnIs(net(new int[] {0, 0, 9}, new int[][] {{0, 1, 4}, {1, 0, 2}, {0, 2, 1}}), 0, 1);
        turnIs(net(new int[] {1}, new int[][] {{0, 0, 9}}), 1, 9);
    }

    /** Ten nodes in a ring, each arc twice: the poorer ones make the turn. */
    private static void manyRings() {
        GateWalk g = new GateWalk();
        for (int i = 0; i < 10; i++) {
            g.node(100);
        }
        for (int i = 0; i < 10; i++) {
            g.arc(i, (i + 1) % 10, 9);
            g.arc(i, (i + 1) % 10, i == 0 ? 1 : 0);
        }
        turnIs(g, 1000, 1);
        DUE.is("helps()", g.helps(), 1);
        for (int i = 0; i < 10; i++) {
            g.tokens(2 * i + 1, 9);
        }
        turnIs(g, 100, 9);
        DUE.is("no one alone helps", g.helps(), -1);
    }

    private static void helping() {
        DUE.is("no nodes", new GateWalk().helps(), -1);
        GateWalk g = net(new int[] {4, 6}, new int[][] {{0, 1, 1}, {1, 0, 1}});
        DUE.is("of several the lowest", g.helps(), 0);
        turnIs(g, 5, 1);
        g.arc(1, 1, 1);
        turnIs(g, 6, 1);
        DUE.is("the loop's own", g.helps(), 2);
        turnIs(g, 6, 1);
        g.arc(1, 1, 1);
        DUE.is("two loops alike", g.helps(), -1);
        GateWalk zero = net(new int[] {0}, new int[][] {{0, 0, 1}});
        DUE.is("a turn of 0", zero.helps(), -1);
        GateWalk full = net(new int[] {90}, new int[][] {{0, 0, 9}});
        DUE.is("nine tokens being one more", full.helps(), 0);
        DUE.is("and the tokens stay", full.turn(0), 10);
        GateWalk later = net(new int[] {10, 10, 10},
                new int[][] {{0, 1, 1}, {1, 0, 1}, {1, 2, 0}, {2, 1, 1}});
        turnIs(later, 20, 1);
        DUE.is("of the ring that holds", later.helps(), 2);
        GateWalk common = net(new int[] {1, 1, 1},
                new int[][] {{1, 0, 1}, {2, 0, 1}, {0, 1, 0}, {0, 2, 0}});
        turnIs(common, 2, 1);
        DUE.is("none is common to both", common.helps(), -1);
        common.tokens(1, 2);
        DUE.is("now the first ring's", common.helps(), 0);
        GateWalk best = net(new int[] {30, 10}, new int[][] {{0, 1, 1}, {1, 0, 0}, {1, 1, 1}});
        turnIs(best, 40, 1);
        DUE.is("not the last of those alike", best.helps(), 0);
    }
}
