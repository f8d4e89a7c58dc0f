/** Promise 1. */
final class NewObjectTest {
    public static void main(String[] args) {
        Due due = new Due();
        GateWalk g = new GateWalk();
        due.is("NONE", GateWalk.NONE, -1);
        int[] counts = {0, 0, 0, 1, 0, 0, 0, 0};
        for (int what = 0; what < counts.length; what++) {
            due.is("count(" + what + ")", g.count(what), counts[what]);
        }
        due.is("fault()", g.fault(), -1);
        due.is("states()", g.states(), 1);
        due.is("state(0)", g.state(0), 0);
        due.is("stop(0)", g.stop(0), 0);
        due.is("way(0)", g.way(0), 0);
        due.is("run(5, 1)", g.run(5, 1), 0);
        for (int x = 0; x < 12; x++) {
            due.is("live(" + x + ")", g.live(x), 0);
            due.is("stuck(" + x + ", false)", g.stuck(x, false), false);
            due.is("arbiter(" + x + ", ..)", g.arbiter(x, (x + 1) % 12, false), false);
        }
        due.is("asked(4095)", g.asked(4095), 0);
        due.is("dead()", g.dead(), 0);
        due.is("turn(0)", g.turn(0), -1);
        due.is("helps()", g.helps(), -1);
        due.noTime(g, 0, 1);
        GateWalk other = Due.of("a=a'", 0);
        other.node(1);
        due.is("objects are apart: states()", new GateWalk().states(), 1);
        due.is("objects are apart: count(4)", new GateWalk().count(4), 0);
        due.finish();
    }
}
