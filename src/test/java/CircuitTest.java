/** Promises 5, 7 and 8: circuit, stuck and asked. */
final class CircuitTest {
    public static void main(String[] args) {
        Due due = new Due();
        circuitTakesTheTape(due);
        refusedChangesNothing(due);
        valuesOfEquations(due);
        stuckSignals(due);
        due.finish();
    }

    private static void circuitTakesTheTape(Due due) {
        GateWalk g = new GateWalk();
        due.is("an empty tape is a text", g.circuit(9), true);
        due.is("reset", g.count(7), 9);
        due.is("state(0)", g.state(0), 9);
        Due.feed(g, "a=b'+c;b=1");
        due.is("before it, no equations", g.count(0), 0);
        due.is("circuit(4095)", g.circuit(4095), true);
        due.is("equations", g.count(0), 2);
        due.is("terms", g.count(1), 3);
        due.is("tape", g.count(6), 0);
        due.is("reset", g.count(7), 4095);
        due.is("stuck", g.stuck(3, true), true);
        due.is("arbiter", g.arbiter(3, 4, true), true);
        due.is("the next circuit is without equations", g.circuit(0), true);
        due.is("equations", g.count(0), 0);
        due.is("terms", g.count(1), 0);
        due.is("nothing stuck any more", g.stuck(3, false), false);
        due.is("no arbiter any more", g.arbiter(4, 3, false), false);
        due.is("the walk is another", g.states(), 1);
        Due.feed(g, "a=b';b=a'");
        due.is("circuit(0)", g.circuit(0), true);
        due.is("the walk is another", g.states(), 3);
        due.is("hazards", g.count(2), 2);
        due.is("live(0)", g.live(0), 0);
        Due.feed(g, "a=a'");
        due.is("circuit(2)", g.circuit(2), true);
        due.is("the walk is another", g.states(), 2);
        due.is("hazards", g.count(2), 0);
        due.is("stops", g.count(3), 0);
        due.is("live(0)", g.live(0), 1);
        due.is("state(0)", g.state(0), 2);
        due.is("place(0)", g.place(0), -1);
    }

    private static void refusedChangesNothing(Due due) {
        GateWalk g = Due.of("a=a'", 0);
        g.stuck(5, true);
        g.arbiter(1, 2, true);
        due.is("states", g.states(), 2);
        Due.feed(g, "b=1;");
        due.is("a fault", g.circuit(1), false);
        due.is("the tape stays", g.count(6), 4);
        due.is("equations", g.count(0), 1);
        due.is("reset", g.count(7), 0);
        g.end(3);
        int[] wrong = {-1, 4096, Integer.MAX_VALUE, Integer.MIN_VALUE};
        for (int state : wrong) {
            due.is("circuit(" + state + ")", g.circuit(state), false);
        }
        due.is("the tape stays", g.count(6), 3);
        due.is("asked(0)", g.asked(0), 1);
        due.is("stuck stays", g.stuck(5, true), false);
        due.is("arbiter stays", g.arbiter(2, 1, true), false);
        due.is("fault leaves the circuit alone", g.fault(), -1);
        due.is("asked(0)", g.asked(0), 1);
        due.is("circuit(4095)", g.circuit(4095), true);
        due.is("asked(0)", g.asked(0), 2);
    }

    private static void valuesOfEquations(Due due) {
        GateWalk g = Due.of("a=b c'+d;e=0;f=1;g=h'h;h=hh'+1'".replace("+1'", "+i'"), 0);
        due.is("asked(0)", g.asked(0), 32 + 128);
        due.is("b: a", g.asked(2), 1 + 32 + 128);
        due.is("b and c: not a", g.asked(2 + 4), 32 + 128);
        due.is("b, c and d: a", g.asked(2 + 4 + 8), 1 + 32 + 128);
        due.is("a alone: a is asked to fall", g.asked(1), 1 + 32 + 128);
        due.is("a and d: a stays", g.asked(1 + 8), 32 + 128);
        due.is("e falls, f stays", g.asked(16 + 32), 16 + 128);
        due.is("g falls", g.asked(64), 64 + 32 + 128);
        due.is("h stays with i at 0", g.asked(128), 32);
        due.is("h falls with i at 1", g.asked(128 + 256), 32 + 128);
        due.is("j has no equation", g.asked(512), 32 + 128);
        due.is("asked(4095)", g.asked(4095), 16 + 64 + 128);
        due.is("asked(-1)", g.asked(-1), -1);
        due.is("asked(4096)", g.asked(4096), -1);
        due.is("asked(min)", g.asked(Integer.MIN_VALUE), -1);
        GateWalk l = Due.of("l=k'", 0);
        due.is("the last signal", l.asked(0), 2048);
        due.is("and the one before", l.asked(1024), 0);
    }

    private static void stuckSignals(Due due) {
        GateWalk g = Due.of("a=a';b=b'", 0);
        due.is("stuck(-1)", g.stuck(-1, true), false);
        due.is("stuck(12)", g.stuck(12, true), false);
        due.is("stuck(12, false)", g.stuck(12, false), false);
        due.is("not stuck already", g.stuck(0, false), false);
        due.is("states", g.states(), 4);
        due.is("stuck", g.stuck(0, true), true);
        due.is("stuck already", g.stuck(0, true), false);
        due.is("asked(0)", g.asked(0), 2);
        due.is("states", g.states(), 2);
        due.is("live(0)", g.live(0), 0);
        due.is("live(1)", g.live(1), 1);
        due.is("run never changes it", g.changed(100, 3, 0), 0);
        due.is("without equation too", g.stuck(11, true), true);
        due.is("asked", g.asked(4095), 2);
        due.is("no more", g.stuck(0, false), true);
        due.is("asked(0)", g.asked(0), 3);
        due.is("states", g.states(), 4);
        due.is("live(0)", g.live(0), 1);
    }
}
