/** Promises 6 and 12: arbiter and hazard (and count 2). */
final class HazardTest {
    public static void main(String[] args) {
        Due due = new Due();
        arbiterRefuses(due);
        orderOfHazards(due);
        oneWayHazard(due);
        arbitersLeaveOut(due);
        due.finish();
    }

    private static void arbiterRefuses(Due due) {
        GateWalk g = new GateWalk();
        due.is("alike", g.arbiter(3, 3, true), false);
        due.is("x -1", g.arbiter(-1, 3, true), false);
        due.is("x 12", g.arbiter(12, 3, true), false);
        due.is("y -1", g.arbiter(3, -1, true), false);
        due.is("y 12", g.arbiter(3, 12, true), false);
        due.is("both wrong", g.arbiter(99, 99, false), false);
        due.is("is none", g.arbiter(0, 11, false), false);
        due.is("becomes one", g.arbiter(0, 11, true), true);
        due.is("is one", g.arbiter(0, 11, true), false);
        due.is("is one the other way", g.arbiter(11, 0, true), false);
        due.is("others are not", g.arbiter(0, 10, false), false);
        due.is("ends the other way", g.arbiter(11, 0, false), true);
        due.is("is none", g.arbiter(0, 11, false), false);
    }

    private static void orderOfHazards(Due due) {
        GateWalk g = Due.of("a=b'c';b=a'c';c=a'b'", 0);
        int[][] want = {{0, 0, 1}, {0, 0, 2}, {0, 1, 0}, {0, 1, 2}, {0, 2, 0}, {0, 2, 1}};
        due.is("count(2)", g.count(2), want.length);
        lookAt(due, g, want);
        due.is("what -1", g.hazard(0, -1), -1);
        due.is("what 3", g.hazard(0, 3), -1);
        due.is("i -1", g.hazard(-1, 0), -1);
        due.is("i min", g.hazard(Integer.MIN_VALUE, 0), -1);
        due.is("i max", g.hazard(Integer.MAX_VALUE, 0), -1);
    }

    private static void lookAt(Due due, GateWalk g, int[][] want) {
        for (int i = 0; i < want.length; i++) {
            for (int what = 0; what < 3; what++) {
                due.is("hazard(" + i + ", " + what + ")", g.hazard(i, what), want[i][what]);
            }
        }
        due.is("behind the last", g.hazard(want.length, 0), -1);
    }

    /** In the order of the walk (0, 1, 2, 4, ..), not of the states' numbers; y takes x back, x not y. */
    private static void oneWayHazard(Due due) {
        GateWalk g = Due.of("a=b';b=1;c=1", 6);
        due.is("no hazard where all rests", g.count(2), 0);
        g = Due.of("a=b';b=1;c=1", 0);
        lookAt(due, g, new int[][] {{0, 0, 1}, {4, 0, 1}});
        g = Due.of("b=a'd';c=1;d=1", 1);
        due.is("b not asked", g.count(2), 0);
        g = Due.of("a=b;b=1", 1);
        lookAt(due, g, new int[][] {{1, 0, 1}});
        g = Due.of("a=0;b=a;c=1", 1);
        lookAt(due, g, new int[][] {{1, 1, 0}, {5, 1, 0}});
        g = Due.of("a=c';b=1;c=1", 0);
        due.is("states 0 1 2 4 ..", g.state(2), 2);
        lookAt(due, g, new int[][] {{0, 0, 2}, {2, 0, 2}});
        g = Due.of("a=b';b=1;c=1;d=1", 0);
        lookAt(due, g, new int[][] {{0, 0, 1}, {4, 0, 1}, {8, 0, 1}, {12, 0, 1}});
        g = Due.of("a=b'+c;b=a'+d;d=1", 0);
        lookAt(due, g, new int[][] {{0, 0, 1}, {0, 1, 0}, {8, 0, 1}});
        g = Due.of("a=1;b=c';c=b'", 0);
        lookAt(due, g, new int[][] {{0, 1, 2}, {0, 2, 1}, {1, 1, 2}, {1, 2, 1}});
        g = Due.of("a=0;b=a';c=b", 4);
        due.is("stuck ones have none", g.stuck(1, true), true);
        due.is("count(2)", g.count(2), 0);
        due.is("with it", g.stuck(1, false), true);
        lookAt(due, g, new int[][] {{4, 2, 1}});
    }

    private static void arbitersLeaveOut(Due due) {
        GateWalk g = Due.of("a=b'c';b=a'c';c=a'b'", 0);
        due.is("count(2)", g.count(2), 6);
        due.is("arbiter", g.arbiter(2, 0, true), true);
        lookAt(due, g, new int[][] {{0, 0, 1}, {0, 1, 0}, {0, 1, 2}, {0, 2, 1}});
        due.is("arbiter", g.arbiter(0, 1, true), true);
        lookAt(due, g, new int[][] {{0, 1, 2}, {0, 2, 1}});
        due.is("arbiter no more", g.arbiter(0, 2, false), true);
        lookAt(due, g, new int[][] {{0, 0, 2}, {0, 1, 2}, {0, 2, 0}, {0, 2, 1}});
        due.is("the walk is the same", g.states(), 4);
    }
}
