import java.util.NoSuchElementException;

/**
 * What is refused answers as told and changes nothing: two objects are brought to the same state, one of
 * them is asked what must be refused, and both must then answer all questions alike.
 */
final class RefusalTest {
    private static final Due DUE = new Due();
    private static final int BLANKS = 0x20202020;
    /** What a call of time that throws counts as: no time is below 0. */
    private static final long THROWN = -2;

    public static void main(String[] args) {
        tapeCalls();
        circuitCalls();
        settingCalls();
        walkCalls();
        lotCalls();
        netCalls();
        ringCalls();
        questionsChangeNothing();
        DUE.finish();
    }

    // ---- the calls

    private static void tapeCalls() {
        DUE.sentence("What is refused answers as told and changes nothing. (2 feed)");
        refuses("feed, 301 bytes", RefusalTest::fullTape, g -> g.feed(0, 0, 0, 0, ' '), -1);
        refuses("feed, 320 bytes", RefusalTest::fullTape, g -> g.feed(BLANKS, BLANKS, BLANKS, BLANKS, BLANKS), -1);
        DUE.sentence("What is refused answers as told and changes nothing. (3 end)");
        for (int n : Due.outside(0, 3)) {
            refuses("end(" + n + ")", () -> furnished("a=1"), g -> number(g.end(n)), 0);
        }
        for (int n : Due.outside(0, 300)) {
            refuses("end(" + n + ") of a full tape", RefusalTest::fullTape, g -> number(g.end(n)), 0);
        }
    }

    private static void circuitCalls() {
        DUE.sentence("What is refused answers as told and changes nothing. (5 circuit)");
        for (int state : Due.outside(0, 4095)) {
            refuses("circuit(" + state + ")", () -> furnished("a=1"), g -> number(g.circuit(state)), 0);
        }
        String[] wrong = {"?", "a=b;a=c", "c=c';", "a=1;b=2", "b=bbbbbbbbb"};
        for (String tape : wrong) {
            refuses("circuit(0) of " + tape, () -> furnished(tape), g -> number(g.circuit(0)), 0);
            refuses("circuit(-1) of " + tape, () -> furnished(tape), g -> number(g.circuit(-1)), 0);
        }
    }

    private static void settingCalls() {
        DUE.sentence("What is refused answers as told and changes nothing. (6 arbiter)");
        for (int x : Due.outside(0, 11)) {
            refuses("arbiter(" + x + ", 0, true)", () -> furnished("a=1"), g -> number(g.arbiter(x, 0, true)), 0);
            refuses("arbiter(0, " + x + ", true)", () -> furnished("a=1"), g -> number(g.arbiter(0, x, true)), 0);
            refuses("arbiter(0, " + x + ", false)", () -> furnished("a=1"), g -> number(g.arbiter(0, x, false)), 0);
        }
        refuses("alike", () -> furnished("a=1"), g -> number(g.arbiter(2, 2, true)), 0);
        refuses("a pair already", () -> furnished("a=1"), g -> number(g.arbiter(1, 0, true)), 0);
        refuses("no pair already", () -> furnished("a=1"), g -> number(g.arbiter(2, 3, false)), 0);
        DUE.sentence("What is refused answers as told and changes nothing. (7 stuck)");
        for (int x : Due.outside(0, 11)) {
            refuses("stuck(" + x + ", true)", () -> furnished("a=1"), g -> number(g.stuck(x, true)), 0);
            refuses("stuck(" + x + ", false)", () -> furnished("a=1"), g -> number(g.stuck(x, false)), 0);
        }
        refuses("stuck already", () -> furnished("a=1"), g -> number(g.stuck(4, true)), 0);
        refuses("not stuck already", () -> furnished("a=1"), g -> number(g.stuck(0, false)), 0);
    }

    private static void walkCalls() {
        DUE.sentence("What is refused answers as told and changes nothing. (8 asked to 17 both)");
        for (int state : Due.outside(0, 4095)) {
            refuses("asked(" + state + ")", () -> furnished("a=1"), g -> g.asked(state), -1);
            refuses("state(" + state + ")", () -> furnished("a=1"), g -> g.state(state), -1);
            refuses("place(" + state + ")", () -> furnished("a=1"), g -> g.place(state), -1);
            refuses("hazard(" + state + ", 0)", () -> furnished("a=1"), g -> g.hazard(state, 0), -1);
            refuses("hazard(0, " + state + ")", () -> furnished("a=1"), g -> g.hazard(0, state), -1);
            refuses("stop(" + state + ")", () -> furnished("a=1"), g -> g.stop(state), -1);
            refuses("way(" + state + ")", () -> furnished("a=1"), g -> g.way(state), -1);
            refuses("change(" + state + ", 0)", () -> furnished("a=1"), g -> g.change(state, 0), -1);
            refuses("change(9, " + state + ")", () -> furnished("a=1"), g -> g.change(9, state), -1);
            refuses("live(" + state + ")", () -> furnished("a=1"), g -> g.live(state), -1);
            refuses("both(" + state + ")", () -> furnished("a=1"), g -> g.both(state), -1);
        }
    }

    private static void lotCalls() {
        DUE.sentence("What is refused answers as told and changes nothing. (18 run, 19 changed)");
        for (int n : Due.outside(0, 2000)) {
            refuses("run(" + n + ", 1)", () -> furnished("a=1"), g -> g.run(n, 1), -1);
            refuses("changed(" + n + ", 1, 0)", () -> furnished("a=1"), g -> g.changed(n, 1, 0), -1);
        }
        for (int x : Due.outside(0, 11)) {
            refuses("changed(9, 1, " + x + ")", () -> furnished("a=1"), g -> g.changed(9, 1, x), -1);
        }
    }

    private static void netCalls() {
        DUE.sentence("What is refused answers as told and changes nothing. (20 node)");
        for (int delay : Due.outside(0, 100)) {
            refuses("node(" + delay + ")", () -> furnished("a=1"), g -> g.node(delay), -1);
        }
        refuses("an eleventh node", RefusalTest::fullNet, g -> g.node(50), -1);
        DUE.sentence("What is refused answers as told and changes nothing. (21 arc)");
        for (int node : Due.outside(0, 2)) {
            refuses("arc(" + node + ", 0, 1)", () -> furnished("a=1"), g -> g.arc(node, 0, 1), -1);
            refuses("arc(0, " + node + ", 1)", () -> furnished("a=1"), g -> g.arc(0, node, 1), -1);
        }
        for (int tokens : Due.outside(0, 9)) {
            refuses("arc(0, 1, " + tokens + ")", () -> furnished("a=1"), g -> g.arc(0, 1, tokens), -1);
        }
        refuses("a twenty-first arc", RefusalTest::fullNet, g -> g.arc(0, 0, 0), -1);
        DUE.sentence("What is refused answers as told and changes nothing. (22 tokens)");
        for (int tokens : Due.outside(0, 9)) {
            refuses("tokens(1, " + tokens + ")", () -> furnished("a=1"), g -> number(g.tokens(1, tokens)), 0);
        }
        for (int arc : Due.outside(0, 2)) {
            refuses("tokens(" + arc + ", 5)", () -> furnished("a=1"), g -> number(g.tokens(arc, 5)), 0);
        }
        for (int arc : Due.outside(0, 19)) {
            refuses("tokens(" + arc + ", 5) of twenty", RefusalTest::fullNet, g -> number(g.tokens(arc, 5)), 0);
        }
    }

    private static void ringCalls() {
        DUE.sentence("What is refused answers as told and changes nothing. (25 turn to 28 count)");
        for (int what : Due.outside(0, 7)) {
            refuses("turn(" + what + ")", () -> furnished("a=1"), g -> g.turn(what), -1);
            refuses("count(" + what + ")", () -> furnished("a=1"), g -> g.count(what), -1);
        }
        for (int k : Due.outside(1, 200)) {
            refuses("time(0, " + k + ")", () -> furnished("a=1"), g -> timeOf(g, 0, k), THROWN);
        }
        for (int node : Due.outside(0, 2)) {
            refuses("time(" + node + ", 1)", () -> furnished("a=1"), g -> timeOf(g, node, 1), THROWN);
        }
        refuses("time of a dead ring", RefusalTest::deadNet, g -> timeOf(g, 0, 1), THROWN);
        refuses("turn of a dead ring", RefusalTest::deadNet, g -> g.turn(0), -1);
        refuses("helps of a dead ring", RefusalTest::deadNet, g -> g.helps(), -1);
    }

    private static void questionsChangeNothing() {
        DUE.sentence("a question changes nothing");
        GateWalk asked = furnished("a=1;b=a");
        for (int i = 0; i < 3; i++) {
            answers(asked);
        }
        alike("questions", asked, furnished("a=1;b=a"));
    }

    // ---- states to begin with

    /** Something of everything: a circuit, a pair, a stuck signal, a tape with a fault, nodes and arcs. */
    private static GateWalk furnished(String tape) {
        GateWalk g = Due.of("a=b';b=a';c=ad;d=c'+e;e=e'", 8);
        g.arbiter(0, 1, true);
        g.stuck(4, true);
        g.node(3);
        g.node(4);
        g.node(9);
        g.arc(0, 1, 0);
        g.arc(1, 0, 1);
        g.arc(1, 2, 2);
        Due.feed(g, tape);
        return g;
    }

    private static GateWalk fullTape() {
        GateWalk g = furnished("a=1");
        for (int i = 0; i < 14; i++) {
            g.feed(BLANKS, BLANKS, BLANKS, BLANKS, BLANKS);
        }
        g.feed(BLANKS, BLANKS, BLANKS, BLANKS, 0x20);
        return g;
    }

    private static GateWalk fullNet() {
        GateWalk g = furnished("a=1");
        for (int i = 3; i < 10; i++) {
            g.node(i);
        }
        for (int i = 3; i < 20; i++) {
            g.arc(i % 10, (i + 1) % 10, 1 + i % 3);
        }
        return g;
    }

    private static GateWalk deadNet() {
        GateWalk g = furnished("a=1");
        g.tokens(1, 0);
        return g;
    }

    // ---- the comparison

    /** A call that is refused, as a number (false counts 0, a throw as THROWN). */
    private interface Call {
        long on(GateWalk g);
    }

    /** How the two objects come to be. */
    private interface Begin {
        GateWalk make();
    }

    /** Both with what is kept for the next question still to be made, and with it made already. */
    private static void refuses(String call, Begin begin, Call refusal, long want) {
        GateWalk cold = begin.make();
        DUE.is(call, refusal.on(cold), want);
        alike(call, cold, begin.make());
        GateWalk warm = begin.make();
        answers(warm);
        DUE.is(call + " behind questions", refusal.on(warm), want);
        alike(call + " behind questions", warm, begin.make());
    }

    private static void alike(String call, GateWalk asked, GateWalk untouched) {
        same("answers", call, answers(asked), answers(untouched));
        same("settings", call, settings(asked), settings(untouched));
        // What the tape holds is seen when it becomes the text.
        DUE.is("circuit behind " + call, asked.circuit(5), untouched.circuit(5));
        same("the next text", call, circuitAnswers(asked), circuitAnswers(untouched));
    }

    private static void same(String what, String call, String got, String want) {
        DUE.is(what + " behind " + call + ": " + got + ", due are " + want, got.equals(want), true);
    }

    /** Which pairs and stuck signals there are is seen by setting all of them. */
    private static String settings(GateWalk g) {
        StringBuilder all = new StringBuilder();
        for (int x = 0; x < 12; x++) {
            all.append(number(g.stuck(x, true))).append(':');
            for (int y = 0; y < x; y++) {
                all.append(number(g.arbiter(x, y, true)));
            }
        }
        return all.toString();
    }

    /** All that can be asked without a change, in fewer than a hundred calls. */
    private static String answers(GateWalk g) {
        return circuitAnswers(g) + ringAnswers(g);
    }

    private static String circuitAnswers(GateWalk g) {
        StringBuilder all = new StringBuilder();
        all.append("fault ").append(g.fault()).append(" counts");
        for (int what = 0; what < 8; what++) {
            all.append(' ').append(g.count(what));
        }
        all.append(" asked ").append(g.asked(0)).append(' ').append(g.asked(31)).append(" states ").append(g.states());
        for (int i = 0; i < 4; i++) {
            all.append(' ').append(g.state(i)).append(' ').append(g.hazard(i, 0)).append(' ').append(g.stop(i));
            all.append(' ').append(g.live(i)).append(' ').append(g.both(1 << i));
        }
        all.append(" way ").append(g.way(9)).append(' ').append(g.change(9, 0)).append(' ').append(g.place(10));
        all.append(" run ").append(g.run(9, 4)).append(' ').append(g.changed(99, 4, 2));
        return all.toString();
    }

    private static String ringAnswers(GateWalk g) {
        StringBuilder all = new StringBuilder();
        all.append(" dead ").append(g.dead()).append(" turn ").append(g.turn(0)).append('/').append(g.turn(1));
        all.append(" helps ").append(g.helps()).append(" times");
        for (int node = 0; node < 10; node++) {
            all.append(' ').append(timeOf(g, node, 1)).append(' ').append(timeOf(g, node, 12));
        }
        return all.toString();
    }

    private static long timeOf(GateWalk g, int node, int k) {
        try {
            return g.time(node, k);
        } catch (NoSuchElementException e) {
            return THROWN;
        }
    }

    private static long number(boolean is) {
        return is ? 1 : 0;
    }
}
