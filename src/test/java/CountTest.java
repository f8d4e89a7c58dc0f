/** Promise 28: count. */
final class CountTest {
    public static void main(String[] args) {
        Due due = new Due();
        GateWalk g = Due.of("a=b'c+d;b=a';c=1;e=0", 6);
        g.node(1);
        g.node(2);
        g.arc(0, 1, 1);
        Due.feed(g, "xyz");
        due.is("equations", g.count(0), 4);
        due.is("terms", g.count(1), 5);
        due.is("nodes", g.count(4), 2);
        due.is("arcs", g.count(5), 1);
        due.is("bytes", g.count(6), 3);
        due.is("reset", g.count(7), 6);
        int[] none = {-1, 8, 100, Integer.MAX_VALUE, Integer.MIN_VALUE};
        for (int what : none) {
            due.is("count(" + what + ")", g.count(what), -1);
        }
        String terms = Due.times(12, "b", "+");
        g = Due.of("a=" + terms + ";b=" + terms + ";c=" + terms + ";d=" + terms, 0);
        due.is("many terms", g.count(1), 48);
        g = Due.of("a=b';b=a'", 0);
        due.is("hazards", g.count(2), 2);
        due.is("stops", g.count(3), 2);
        g.stuck(0, true);
        due.is("hazards with a stuck", g.count(2), 0);
        due.is("stops with a stuck", g.count(3), 1);
        due.is("equations with a stuck", g.count(0), 2);
        due.finish();
    }
}
