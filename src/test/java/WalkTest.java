/** Promises 9, 10, 11, 13, 14, 15 and 17: states, state, place, stop, way, change and both. */
final class WalkTest {
    public static void main(String[] args) {
        Due due = new Due();
        orderOfTheWalk(due);
        stops(due);
        ways(due);
        firstWithAll(due);
        allStates(due);
        longWay(due);
        due.finish();
    }

    private static void orderOfTheWalk(Due due) {
        GateWalk g = Due.of("a=1;b=1;c=1", 0);
        int[] order = {0, 1, 2, 4, 3, 5, 6, 7};
        due.is("states", g.states(), order.length);
        for (int i = 0; i < order.length; i++) {
            due.is("state(" + i + ")", g.state(i), order[i]);
            due.is("place(" + order[i] + ")", g.place(order[i]), i);
        }
        int[] none = {-1, 8, 4096, Integer.MAX_VALUE, Integer.MIN_VALUE};
        for (int i : none) {
            due.is("state(" + i + ")", g.state(i), -1);
            due.is("place(" + i + ")", g.place(i), -1);
            due.is("way(" + i + ")", g.way(i), -1);
            due.is("change(" + i + ", 0)", g.change(i, 0), -1);
        }
        g = Due.of("a=0;b=1", 1 + 8);
        int[] other = {9, 8, 11, 10};
        for (int i = 0; i < other.length; i++) {
            due.is("state(" + i + ")", g.state(i), other[i]);
        }
        due.is("state(4)", g.state(4), -1);
        due.is("place(0)", g.place(0), -1);
    }

    private static void stops(Due due) {
        GateWalk g = Due.of("a=b';b=a'", 0);
        due.is("stop(0)", g.stop(0), 1);
        due.is("stop(1)", g.stop(1), 2);
        due.is("stop(2)", g.stop(2), -1);
        due.is("stop(-1)", g.stop(-1), -1);
        due.is("count(3)", g.count(3), 2);
        g = Due.of("a=a'", 0);
        due.is("no stop", g.stop(0), -1);
        due.is("count(3)", g.count(3), 0);
        g = Due.of("a=b;b=a", 1);
        due.is("in order of the walk", g.stop(0), 0);
        due.is("and then", g.stop(1), 3);
        g.stuck(0, true);
        due.is("with a stuck at 1", g.stop(0), 3);
        due.is("count(3)", g.count(3), 1);
        g.stuck(1, true);
        due.is("with both stuck", g.stop(0), 1);
    }

    private static void ways(Due due) {
        GateWalk g = Due.of("a=1;b=1;c=ab", 0);
        due.is("way(0)", g.way(0), 0);
        due.is("change(0, 0)", g.change(0, 0), -1);
        due.is("way(7)", g.way(7), 3);
        int[] first = {0, 1, 2};
        for (int i = 0; i < first.length; i++) {
            due.is("change(7, " + i + ")", g.change(7, i), first[i]);
        }
        due.is("change(7, 3)", g.change(7, 3), -1);
        due.is("change(7, -1)", g.change(7, -1), -1);
        due.is("change(7, max)", g.change(7, Integer.MAX_VALUE), -1);
        due.is("way(2)", g.way(2), 1);
        due.is("change(2, 0)", g.change(2, 0), 1);
        due.is("not reached", g.way(4), -1);
        due.is("not reached", g.change(4, 0), -1);
        g.stuck(0, true);
        due.is("not reached any more", g.way(7), -1);
        g = Due.of("a=0;b=0", 3);
        due.is("falling ones count too", g.way(0), 2);
        due.is("a first", g.change(0, 0), 0);
        due.is("then b", g.change(0, 1), 1);
    }

    private static void firstWithAll(Due due) {
        GateWalk g = Due.of("a=1;b=1;c=1", 0);
        due.is("both(0)", g.both(0), 0);
        due.is("both(1)", g.both(1), 1);
        due.is("both(2)", g.both(2), 2);
        due.is("both(5)", g.both(5), 5);
        due.is("both(6)", g.both(6), 6);
        due.is("both(7)", g.both(7), 7);
        due.is("both(8)", g.both(8), -1);
        due.is("both(9)", g.both(9), -1);
        due.is("both(4095)", g.both(4095), -1);
        due.is("both(4096)", g.both(4096), -1);
        due.is("both(-1)", g.both(-1), -1);
        due.is("both(min)", g.both(Integer.MIN_VALUE), -1);
        g = Due.of("a=b;b=0;c=1", 2);
        due.is("first in the walk, not the least", g.both(4), 6);
        g = Due.of("a=1;b=1", 0);
        due.is("both(3)", g.both(3), 3);
        due.is("a stuck", g.stuck(0, true), true);
        due.is("both(1) any more", g.both(1), -1);
        due.is("both(2)", g.both(2), 2);
        due.is("b stuck", g.stuck(1, true), true);
        due.is("both(2) any more", g.both(2), -1);
    }

    private static void allStates(Due due) {
        GateWalk g = Due.of("a=a';b=b';c=c';d=d';e=e';f=f';g=g';h=h';i=i';j=j';k=k';l=l'", 4095);
        due.is("states", g.states(), 4096);
        due.is("state(0)", g.state(0), 4095);
        due.is("state(1)", g.state(1), 4094);
        due.is("state(12)", g.state(12), 2047);
        due.is("state(13)", g.state(13), 4092);
        due.is("state(4095)", g.state(4095), 0);
        due.is("state(4096)", g.state(4096), -1);
        due.is("way(0)", g.way(0), 12);
        due.is("change(0, 11)", g.change(0, 11), 11);
        due.is("count(2)", g.count(2), 0);
        due.is("count(3)", g.count(3), 0);
        due.is("live(11)", g.live(11), 1);
        due.is("both(4095)", g.both(4095), 4095);
    }

    private static void longWay(Due due) {
        GateWalk g = Due.of("a=b';b=a", 0);
        int[] round = {0, 1, 3, 2};
        for (int i = 0; i < 4; i++) {
            due.is("state(" + i + ")", g.state(i), round[i]);
            due.is("way", g.way(round[i]), i);
        }
        g = Due.of("a=l';b=a;c=b;d=c;e=d;f=e;g=f;h=g;i=h;j=i;k=j;l=k", 0);
        due.is("a ring of twelve", g.states(), 24);
        due.is("way to the last", g.way(2048), 23);
        for (int i = 0; i < 23; i++) {
            due.is("change(2048, " + i + ")", g.change(2048, i), i % 12);
        }
        due.is("change(2048, 23)", g.change(2048, 23), -1);
    }
}
