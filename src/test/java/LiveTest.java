/** Promise 16: live. */
final class LiveTest {
    public static void main(String[] args) {
        Due due = new Due();
        GateWalk g = Due.of("a=b';b=a", 0);
        due.is("live(0)", g.live(0), 1);
        due.is("live(1)", g.live(1), 1);
        due.is("no equation", g.live(2), 0);
        due.is("live(-1)", g.live(-1), -1);
        due.is("live(12)", g.live(12), -1);
        due.is("live(11)", g.live(11), 0);
        g = Due.of("a=1", 0);
        due.is("asked once alone", g.live(0), 0);
        g = Due.of("a=1;b=b'", 0);
        due.is("asked once alone", g.live(0), 0);
        due.is("always asked", g.live(1), 1);
        // From every state but those with d a can go on; d is a trap that may be walked into.
        g = Due.of("a=d'a'+da;b=b';d=d+c;c=1", 0);
        due.is("a ends with d", g.live(0), 0);
        due.is("b goes on", g.live(1), 1);
        g.stuck(2, true);
        due.is("the trap is shut", g.live(0), 1);
        g.stuck(2, false);
        due.is("and open", g.live(0), 0);
        // a can be asked only when b, c are both 1; that comes again from everywhere.
        g = Due.of("a=bca'+b'a+c'a;b=b';c=c'", 0);
        due.is("comes again", g.live(0), 1);
        // a can't be asked in the states walked, but could in others.
        g = Due.of("a=ba'+b'a;c=c'", 0);
        due.is("only outside the walk", g.live(0), 0);
        due.finish();
    }
}
