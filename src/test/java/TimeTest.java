/** Promise 26: time. */
final class TimeTest {
    public static void main(String[] args) {
        Due due = new Due();
        refuses(due);
        chain(due);
        ring(due);
        deadRing(due);
        farthest(due);
        due.finish();
    }

    private static void refuses(Due due) {
        GateWalk g = new GateWalk();
        due.noTime(g, 0, 1);
        g.node(7);
        due.is("time(0, 1)", g.time(0, 1), 7);
        due.is("time(0, 200)", g.time(0, 200), 7);
        due.noTime(g, 0, 0);
        due.noTime(g, 0, -1);
        due.noTime(g, 0, 201);
        due.noTime(g, 0, Integer.MAX_VALUE);
        due.noTime(g, 0, Integer.MIN_VALUE);
        due.noTime(g, -1, 1);
        due.noTime(g, 1, 1);
        due.noTime(g, Integer.MAX_VALUE, 1);
    }

    private static void chain(Due due) {
        GateWalk g = new GateWalk();
        g.node(3);
        g.node(5);
        g.node(0);
        g.arc(2, 1, 0);
        g.arc(0, 2, 2);
        due.is("time(2, 2)", g.time(2, 2), 0);
        due.is("time(2, 3)", g.time(2, 3), 3);
        due.is("time(1, 2)", g.time(1, 2), 5);
        due.is("time(1, 3)", g.time(1, 3), 8);
        due.is("time(0, 3)", g.time(0, 3), 3);
        g.tokens(1, 0);
        due.is("time(2, 1)", g.time(2, 1), 3);
        due.is("time(1, 1)", g.time(1, 1), 8);
        g.arc(0, 0, 1);
        due.is("with a loop, time(0, 4)", g.time(0, 4), 12);
        due.is("time(1, 4)", g.time(1, 4), 17);
        g.node(9);
        g.arc(3, 1, 0);
        due.is("the greatest", g.time(1, 1), 14);
        due.is("the greatest", g.time(1, 4), 17);
        g = new GateWalk();
        for (int delay = 1; delay <= 4; delay++) {
            g.node(delay);
        }
        // Each arc is told before those that it waits for.
        g.arc(1, 0, 0);
        g.arc(2, 0, 0);
        g.arc(2, 1, 0);
        g.arc(3, 2, 0);
        due.is("time(3, 1)", g.time(3, 1), 4);
        due.is("time(2, 1)", g.time(2, 1), 7);
        due.is("time(1, 1)", g.time(1, 1), 9);
        due.is("time(0, 1)", g.time(0, 1), 10);
    }

    private static void ring(Due due) {
        GateWalk g = new GateWalk();
        g.node(2);
        g.node(3);
        g.arc(0, 1, 0);
        g.arc(1, 0, 2);
        g.arc(1, 1, 1);
        for (int k = 1; k <= 200; k++) {
            // Node 1 is busy without a pause from 2 on; node 0 waits for it two times behind.
            due.is("time(1, " + k + ")", g.time(1, k), 2 + 3 * k);
            due.is("time(0, " + k + ")", g.time(0, k), k <= 2 ? 2 : 4 + 3 * (k - 2));
        }
        due.is("back again", g.time(0, 3), 7);
    }

    private static void deadRing(Due due) {
        GateWalk g = new GateWalk();
        for (int delay = 1; delay <= 6; delay++) {
            g.node(delay);
        }
        g.arc(0, 1, 0);
        g.arc(1, 0, 0);
        g.arc(1, 2, 0);
        g.arc(2, 3, 3);
        g.arc(4, 0, 0);
        due.noTime(g, 0, 1);
        due.noTime(g, 1, 200);
        due.noTime(g, 2, 1);
        due.is("three tokens come first", g.time(3, 3), 4);
        due.noTime(g, 3, 4);
        due.noTime(g, 3, 200);
        due.is("in front of it", g.time(4, 9), 5);
        due.is("beside it", g.time(5, 9), 6);
        g.tokens(1, 1);
        due.is("alive", g.time(0, 1), 6);
        due.is("alive", g.time(3, 4), 15);
    }

    /** The greatest time there can be: all delays of all nodes, two hundred times. */
    private static void farthest(Due due) {
        GateWalk g = new GateWalk();
        for (int i = 0; i < 10; i++) {
            g.node(100);
        }
        for (int i = 0; i < 10; i++) {
            g.arc(i, (i + 1) % 10, i == 9 ? 1 : 0);
        }
        due.is("time(9, 200)", g.time(9, 200), 200000);
        due.is("time(0, 200)", g.time(0, 200), 199100);
        g.clear();
        g.node(3);
        due.is("anew", g.time(0, 5), 3);
        g.node(4);
        due.is("a node more has its own times", g.time(1, 5), 4);
    }
}
