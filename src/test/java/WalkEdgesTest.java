/** The boundary cases of the walk: part 1 of the terms, promises 9 to 17. */
final class WalkEdgesTest {
    private static final String ALL_FREE = "a=a';b=b';c=c';d=d';e=e';f=f';g=g';h=h';i=i';j=j';k=k';l=l'";
    private static final Due DUE = new Due();

    public static void main(String[] args) {
        oneState();
        allStates();
        orderOfStates();
        statesWithout();
        placesWithout();
        twoSignals();
        behindTheChange();
        orderOfHazards();
        eitherWayRound();
        hazardsWithout();
        hazardsForOthers();
        manyHazards();
        stopsInOrder();
        stopsWithout();
        noStateWithoutWay();
        wayToReset();
        longestWay();
        firstCame();
        changesWithout();
        liveFromEachState();
        liveOfNoSignal();
        firstOfTheWalk();
        noSetAtAll();
        DUE.finish();
    }

    // ---- the states

    private static void oneState() {
        DUE.sentence("9: How many STATES the WALK has. (RESET first)");
        DUE.is("without equations", new GateWalk().states(), 1);
        DUE.is("nothing asked", Due.of("a=a", 4095).states(), 1);
        GateWalk g = Due.of("a=1", 0);
        DUE.is("two", g.states(), 2);
        g.stuck(0, true);
        DUE.is("all stuck", g.states(), 1);
        DUE.is("reset", g.state(0), 0);
    }

    private static void allStates() {
        DUE.sentence("9: How many STATES the WALK has. (all of them)");
        GateWalk g = Due.of(ALL_FREE, 4095);
        DUE.is("all", g.states(), 4096);
        DUE.is("the last", g.state(4095), 0);
        DUE.is("behind the last", g.state(4096), -1);
        DUE.is("place(0)", g.place(0), 4095);
        DUE.is("place(4095)", g.place(4095), 0);
    }

    private static void orderOfStates() {
        DUE.sentence("RESET first; then, STATE by STATE of that order, those that come by a change of a, b, .. "
                + "and are not in it yet");
        GateWalk g = Due.of("a=1;k=1;l=a", 2048);
        int[] order = {2048, 2049, 3072, 0, 3073, 1024, 1, 1025};
        DUE.is("states", g.states(), order.length);
        for (int i = 0; i < order.length; i++) {
            DUE.is("state(" + i + ")", g.state(i), order[i]);
            DUE.is("place(" + order[i] + ")", g.place(order[i]), i);
        }
    }

    private static void statesWithout() {
        DUE.sentence("10: STATE i of the WALK. NONE without.");
        GateWalk one = new GateWalk();
        for (int i : Due.outside(0, 0)) {
            DUE.is("of one: state(" + i + ")", one.state(i), -1);
        }
        GateWalk four = Due.of("a=a';b=b'", 0);
        DUE.is("the last of four", four.state(3), 3);
        for (int i : Due.outside(0, 3)) {
            DUE.is("of four: state(" + i + ")", four.state(i), -1);
        }
        four.stuck(1, true);
        DUE.is("the last of two", four.state(1), 1);
        DUE.is("of two: state(2)", four.state(2), -1);
        GateWalk all = Due.of(ALL_FREE, 0);
        for (int i : Due.outside(0, 4095)) {
            DUE.is("of all: state(" + i + ")", all.state(i), -1);
        }
    }

    private static void placesWithout() {
        DUE.sentence("11: Which place a STATE has in it. NONE: it is not REACHED.");
        GateWalk g = Due.of("a=a';b=b'", 4);
        DUE.is("reset", g.place(4), 0);
        DUE.is("the last", g.place(7), 3);
        DUE.is("place(3)", g.place(3), -1);
        DUE.is("place(8)", g.place(8), -1);
        DUE.is("place(4095)", g.place(4095), -1);
        for (int state : Due.outside(0, 4095)) {
            DUE.is("place(" + state + ")", g.place(state), -1);
        }
        g.stuck(1, true);
        DUE.is("any more", g.place(7), -1);
    }

    // ---- hazards

    private static void twoSignals() {
        DUE.sentence("two SIGNALS x, y are ASKED");
        DUE.is("a signal alone takes nothing back", Due.of("a=1", 0).count(2), 0);
        DUE.is("nor itself", Due.of("a=1;b=1", 0).count(2), 0);
        DUE.is("one asked, one not", Due.of("a=b';b=0", 0).count(2), 0);
        GateWalk g = Due.of("a=b';b=a'", 0);
        DUE.is("two", g.count(2), 2);
        g.stuck(0, true);
        DUE.is("a stuck one is not asked", g.count(2), 0);
        DUE.is("only states of the walk count", Due.of("a=b';b=a'", 1).count(2), 0);
    }

    private static void behindTheChange() {
        DUE.sentence("behind the change of y x is not");
        GateWalk g = Due.of("a=b';b=1", 0);
        DUE.is("one way alone", g.count(2), 1);
        DUE.is("x", g.hazard(0, 1), 0);
        DUE.is("y", g.hazard(0, 2), 1);
        g = Due.of("a=1;b=a'", 0);
        DUE.is("the other way alone", g.count(2), 1);
        DUE.is("x", g.hazard(0, 1), 1);
        DUE.is("y", g.hazard(0, 2), 0);
        DUE.is("asked still", Due.of("a=a';b=b'", 0).count(2), 0);
        DUE.is("falling ones too", Due.of("a=b';b=a'", 3).count(2), 2);
    }

    private static void orderOfHazards() {
        DUE.sentence("They are in order of STATES, x, y.");
        // The walk goes 3, 2, 1, 7, ..: down and up, so that its order is not that of the numbers.
        GateWalk g = Due.of("a=b';b=a';c=1", 3);
        int[][] want = {{3, 0, 1}, {3, 1, 0}, {7, 0, 1}, {7, 1, 0}};
        lookAt(g, want);
        g = Due.of("a=c';b=c';c=a'b';l=0", 2048);
        int[][] more = {{2048, 0, 2}, {2048, 1, 2}, {2048, 2, 0}, {2048, 2, 1},
            {0, 0, 2}, {0, 1, 2}, {0, 2, 0}, {0, 2, 1}};
        lookAt(g, more);
        lookAt(Due.of("a=1;b=c';c=b'", 0), new int[][] {{0, 1, 2}, {0, 2, 1}, {1, 1, 2}, {1, 2, 1}});
        // The walk goes 2, 3, 0, 1: its last state has hazards, those between have none.
        lookAt(Due.of("a=b;b=ab'", 2), new int[][] {{2, 0, 1}, {1, 0, 1}, {1, 1, 0}});
    }

    private static void lookAt(GateWalk g, int[][] want) {
        DUE.is("count(2)", g.count(2), want.length);
        for (int i = 0; i < want.length; i++) {
            for (int what = 0; what < 3; what++) {
                DUE.is("hazard(" + i + ", " + what + ")", g.hazard(i, what), want[i][what]);
            }
        }
        DUE.is("behind the last", g.hazard(want.length, 0), -1);
    }

    private static void eitherWayRound() {
        DUE.sentence("x, y are no pair told as ARBITER (either way round)");
        GateWalk g = Due.of("a=l';l=a'", 0);
        DUE.is("hazards", g.count(2), 2);
        g.arbiter(0, 11, true);
        DUE.is("this way", g.count(2), 0);
        g.arbiter(0, 11, false);
        DUE.is("hazards again", g.count(2), 2);
        g.arbiter(11, 0, true);
        DUE.is("the other way", g.count(2), 0);
        DUE.is("hazard(0, 0)", g.hazard(0, 0), -1);
        DUE.is("the states are the same", g.states(), 3);
        GateWalk one = Due.of("a=b';b=1", 0);
        one.arbiter(1, 0, true);
        DUE.is("of one way alone too", one.count(2), 0);
    }

    private static void hazardsWithout() {
        DUE.sentence("12: NONE without");
        for (int i : Due.outside(0, 0)) {
            for (int what = 0; what < 3; what++) {
                DUE.is("none at all", new GateWalk().hazard(0, what), -1);
                DUE.is("of one: hazard(" + i + ", " + what + ")", Due.of("a=b';b=1", 0).hazard(i, what), -1);
            }
        }
        GateWalk two = Due.of("a=b';b=a'", 0);
        DUE.is("the last of two", two.hazard(1, 0), 0);
        DUE.is("behind it", two.hazard(2, 0), -1);
        DUE.is("behind it, x", two.hazard(2, 1), -1);
        DUE.is("behind it, y", two.hazard(2, 2), -1);
    }

    private static void hazardsForOthers() {
        DUE.sentence("12: NONE for others");
        GateWalk two = Due.of("a=b';b=a'", 0);
        DUE.is("what 0", two.hazard(1, 0), 0);
        DUE.is("what 1", two.hazard(1, 1), 1);
        DUE.is("what 2", two.hazard(1, 2), 0);
        for (int what : Due.outside(0, 2)) {
            DUE.is("what " + what, two.hazard(1, what), -1);
        }
    }

    /** All states are reached by a .. k, and in each of them l may be asked, taken back by a alone. */
    private static void manyHazards() {
        DUE.sentence("12: Of HAZARD i (where there are many)");
        GateWalk g = Due.of("a=a';b=b';c=c';d=d';e=e';f=f';g=g';h=h';i=i';j=j';k=k';l=al'+a'l", 0);
        DUE.is("states", g.states(), 4096);
        DUE.is("one in each state in which a is 1", g.count(2), 2048);
        DUE.is("the first", g.hazard(0, 0), 1);
        DUE.is("x", g.hazard(2047, 1), 11);
        DUE.is("y", g.hazard(2047, 2), 0);
        DUE.is("the last", g.hazard(2047, 0), 4095);
        DUE.is("behind the last", g.hazard(2048, 0), -1);
    }

    // ---- stops

    private static void stopsInOrder() {
        DUE.sentence("13: STOP i, in order of the WALK.");
        DUE.is("reset can be one", new GateWalk().stop(0), 0);
        GateWalk g = Due.of("a=b;b=a", 1);
        DUE.is("stop(0)", g.stop(0), 0);
        DUE.is("stop(1)", g.stop(1), 3);
        g = Due.of("a=b;b=a", 2);
        DUE.is("in order of the walk, not of numbers", g.stop(0), 3);
        DUE.is("stop(1)", g.stop(1), 0);
        DUE.is("count(3)", g.count(3), 2);
        DUE.is("counted before anything else is asked", Due.of("a=b;b=a", 1).count(3), 2);
    }

    private static void stopsWithout() {
        DUE.sentence("13: NONE without.");
        DUE.is("no stop at all", Due.of("a=a'", 0).stop(0), -1);
        DUE.is("count(3)", Due.of("a=a'", 0).count(3), 0);
        DUE.is("a rest outside the walk is none", Due.of("a=ab+a'b';b=b", 0).stop(0), -1);
        GateWalk g = Due.of("a=b;b=a", 1);
        for (int i : Due.outside(0, 1)) {
            DUE.is("stop(" + i + ")", g.stop(i), -1);
        }
        g.stuck(0, true);
        DUE.is("with a stuck", g.stop(0), 3);
        DUE.is("stop(1) any more", g.stop(1), -1);
        DUE.is("count(3)", g.count(3), 1);
    }

    // ---- ways

    private static void noStateWithoutWay() {
        DUE.sentence("14: NONE: it is not REACHED.");
        GateWalk g = Due.of("a=1", 0);
        DUE.is("way(1)", g.way(1), 1);
        DUE.is("way(2)", g.way(2), -1);
        DUE.is("way(4095)", g.way(4095), -1);
        for (int state : Due.outside(0, 4095)) {
            DUE.is("way(" + state + ")", g.way(state), -1);
        }
        g.stuck(0, true);
        DUE.is("any more", g.way(1), -1);
    }

    private static void wayToReset() {
        DUE.sentence("14: How many changes the WAY to a STATE has. (none to RESET)");
        DUE.is("way(0)", new GateWalk().way(0), 0);
        GateWalk g = Due.of("a=a'", 4095);
        DUE.is("way(4095)", g.way(4095), 0);
        DUE.is("change(4095, 0)", g.change(4095, 0), -1);
        DUE.is("way(4094)", g.way(4094), 1);
    }

    /**
     * The puzzle of the rings on a bar: a may always change, another where the one before it is 1 and those
     * before that are 0. Its states are one long line, here of eight signals and, beside it, of four.
     */
    private static void longestWay() {
        DUE.sentence("14: How many changes the WAY to a STATE has. (many)");
        GateWalk g = Due.of(barOf("abcdefgh") + ";" + barOf("ijkl"), 0);
        DUE.is("states", g.states(), 4096);
        DUE.is("the end of the first line", g.way(128), 255);
        DUE.is("the end of the second", g.way(2048), 15);
        DUE.is("of both", g.way(2048 + 128), 270);
        for (int i = 0; i < 255; i++) {
            // In a Gray code the step in front of number i + 1 changes the lowest 1 of that number.
            DUE.is("change(128, " + i + ")", g.change(128, i), Integer.numberOfTrailingZeros(i + 1));
        }
        DUE.is("change(128, 255)", g.change(128, 255), -1);
        DUE.is("the last of both", g.change(2048 + 128, 269) >= 0, true);
        DUE.is("behind the last of both", g.change(2048 + 128, 270), -1);
    }

    private static String barOf(String signals) {
        StringBuilder text = new StringBuilder();
        text.append(signals.charAt(0)).append('=').append(signals.charAt(0)).append('\'');
        for (int i = 1; i < signals.length(); i++) {
            char x = signals.charAt(i);
            char before = signals.charAt(i - 1);
            text.append(';').append(x).append('=').append(x).append('\'').append(before);
            for (int j = 0; j < i - 1; j++) {
                text.append(signals.charAt(j)).append('\'');
            }
            text.append('+').append(x).append(before).append('\'');
            for (int j = 0; j < i - 1; j++) {
                text.append('+').append(x).append(signals.charAt(j));
            }
        }
        return text.toString();
    }

    private static void firstCame() {
        DUE.sentence("WAY to a STATE of the WALK: the changes by which it first came.");
        GateWalk g = Due.of("a=1;b=1;l=1", 0);
        int[] way = {0, 1, 11};
        for (int i = 0; i < 3; i++) {
            DUE.is("change(2051, " + i + ")", g.change(2051, i), way[i]);
        }
        // 2 + 2048 comes from 2 first, which is in front of 2048.
        DUE.is("change(2050, 0)", g.change(2050, 0), 1);
        DUE.is("change(2050, 1)", g.change(2050, 1), 11);
        // 3 is reached by a over 2 alone.
        g = Due.of("a=b;b=1", 0);
        DUE.is("change(3, 0)", g.change(3, 0), 1);
        DUE.is("change(3, 1)", g.change(3, 1), 0);
    }

    private static void changesWithout() {
        DUE.sentence("15: The SIGNAL of change i of it. NONE without.");
        GateWalk g = Due.of("a=1;l=a", 0);
        DUE.is("the first", g.change(2049, 0), 0);
        DUE.is("the last", g.change(2049, 1), 11);
        for (int i : Due.outside(0, 1)) {
            DUE.is("change(2049, " + i + ")", g.change(2049, i), -1);
        }
        for (int i = -1; i < 2; i++) {
            DUE.is("of reset: " + i, g.change(0, i), -1);
            DUE.is("not reached: " + i, g.change(2048, i), -1);
        }
        for (int state : Due.outside(0, 4095)) {
            DUE.is("change(" + state + ", 0)", g.change(state, 0), -1);
            DUE.is("change(" + state + ", -1)", g.change(state, -1), -1);
        }
    }

    // ---- live, both

    private static void liveFromEachState() {
        DUE.sentence("16: LIVE is a SIGNAL, if from each STATE of the WALK one can be reached in which it is ASKED.");
        DUE.is("in the state itself", Due.of("a=a'", 0).live(0), 1);
        DUE.is("far from it", Due.of("a=l';b=a;c=b;d=c;e=d;f=e;g=f;h=g;i=h;j=i;k=j;l=k", 0).live(11), 1);
        DUE.is("not from the last", Due.of("a=1", 0).live(0), 0);
        DUE.is("from all but one", Due.of("a=a'b'+ab;b=b+c;c=1", 0).live(0), 0);
        DUE.is("never asked", Due.of("a=a;b=b'", 0).live(0), 0);
        DUE.is("without equation", Due.of("a=a'", 0).live(1), 0);
        GateWalk all = Due.of(ALL_FREE, 0);
        for (int x = 0; x < 12; x++) {
            DUE.is("live(" + x + ")", all.live(x), 1);
        }
        all.stuck(5, true);
        DUE.is("stuck", all.live(5), 0);
        DUE.is("others", all.live(6), 1);
    }

    private static void liveOfNoSignal() {
        DUE.sentence("16: NONE: no such one.");
        GateWalk g = Due.of("a=a';l=l'", 0);
        DUE.is("live(0)", g.live(0), 1);
        DUE.is("live(11)", g.live(11), 1);
        for (int x : Due.outside(0, 11)) {
            DUE.is("live(" + x + ")", g.live(x), -1);
        }
    }

    private static void firstOfTheWalk() {
        DUE.sentence("17: The first STATE of the WALK in which all SIGNALS of a set (bits) are 1. NONE: none");
        GateWalk g = Due.of("a=1;b=1;l=a", 2048);
        DUE.is("the empty set: reset", g.both(0), 2048);
        DUE.is("reset has it", g.both(2048), 2048);
        DUE.is("the first of several", g.both(1), 2049);
        DUE.is("the first of several", g.both(2), 2050);
        DUE.is("all three", g.both(2051), 2051);
        DUE.is("none has c", g.both(4), -1);
        DUE.is("none has a and c", g.both(5), -1);
        DUE.is("none has all", g.both(4095), -1);
        DUE.is("all at once", Due.of(ALL_FREE, 0).both(4095), 4095);
        DUE.is("the empty set of a new object", new GateWalk().both(0), 0);
        DUE.is("a set of a new object", new GateWalk().both(1), -1);
        GateWalk less = Due.of("a=1;b=1", 0);
        DUE.is("both(3)", less.both(3), 3);
        less.stuck(0, true);
        DUE.is("both(3) any more", less.both(3), -1);
        less.stuck(1, true);
        DUE.is("both(2) any more", less.both(2), -1);
    }

    private static void noSetAtAll() {
        DUE.sentence("17: NONE: no such set.");
        GateWalk g = Due.of(ALL_FREE, 4095);
        DUE.is("the greatest set", g.both(4095), 4095);
        for (int set : Due.outside(0, 4095)) {
            DUE.is("both(" + set + ")", g.both(set), -1);
        }
        DUE.is("a thirteenth signal", g.both(4096 + 1), -1);
    }
}
