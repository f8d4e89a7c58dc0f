/** The boundary cases of rings, and of counts: part 3 of the terms, promises 20 to 28. */
final class RingEdgesTest {
    private static final Due DUE = new Due();

    public static void main(String[] args) {
        tenNodes();
        delays();
        arcToItself();
        noSuchNodes();
        tokensOfNewArcs();
        twentyArcs();
        otherTokens();
        noSuchArc();
        tokensOutOfBounds();
        clearing();
        deadOrNot();
        eachNodeOnce();
        noTurnWhereDead();
        noTurnWithoutRings();
        turnOfWhat();
        lowestTerms();
        turnOfZero();
        greatestTurns();
        timesOfK();
        timesOfNodes();
        belowOne();
        withoutArcsIn();
        greatestOfArcs();
        timesThatAreNone();
        leastTurn();
        ofSeveralTheLowest();
        noTurnNoHelp();
        notLessByAny();
        counts();
        countsOfOthers();
        DUE.finish();
    }

    private static GateWalk net(int[] delays, int[]... arcs) {
        GateWalk g = new GateWalk();
        for (int i = 0; i < delays.length; i++) {
            DUE.is("node(" + delays[i] + ")", g.node(delays[i]), i);
        }
        for (int i = 0; i < arcs.length; i++) {
            DUE.is("arc " + i, g.arc(arcs[i][0], arcs[i][1], arcs[i][2]), i);
        }
        return g;
    }

    private static int[] of(int... numbers) {
        return numbers;
    }

    private static void turnIs(String what, GateWalk g, long top, long bottom) {
        DUE.is(what + ": turn(0)", g.turn(0), top);
        DUE.is(what + ": turn(1)", g.turn(1), bottom);
    }

    /** Ten nodes in one ring, an arc behind each. */
    private static GateWalk ringOfTen(int delay, int tokens) {
        GateWalk g = new GateWalk();
        for (int i = 0; i < 10; i++) {
            g.node(delay);
        }
        for (int i = 0; i < 10; i++) {
            g.arc(i, (i + 1) % 10, tokens);
        }
        return g;
    }

    // ---- promises 20 to 23

    private static void tenNodes() {
        DUE.sentence("20: A NODE: its number. NONE: there are ten");
        GateWalk g = new GateWalk();
        for (int i = 0; i < 10; i++) {
            DUE.is("node", g.node(i), i);
        }
        DUE.is("an eleventh", g.node(0), -1);
        DUE.is("again", g.node(100), -1);
        DUE.is("count(4)", g.count(4), 10);
        DUE.is("the tenth has its delay", g.time(9, 1), 9);
        DUE.noTime(g, 10, 1);
        g.clear();
        DUE.is("the first again", g.node(7), 0);
    }

    private static void delays() {
        DUE.sentence("20: DELAYS (0 .. 100); NONE: out of bounds.");
        GateWalk g = new GateWalk();
        DUE.is("node(0)", g.node(0), 0);
        DUE.is("node(100)", g.node(100), 1);
        for (int delay : Due.outside(0, 100)) {
            DUE.is("node(" + delay + ")", g.node(delay), -1);
        }
        DUE.is("count(4)", g.count(4), 2);
        DUE.is("time(0, 1)", g.time(0, 1), 0);
        DUE.is("time(1, 1)", g.time(1, 1), 100);
        DUE.is("the next number", g.node(1), 2);
        DUE.is("its time, others having been asked for", g.time(2, 1), 1);
    }

    private static void arcToItself() {
        DUE.sentence("ARCS from a NODE to a NODE (it may be itself)");
        GateWalk g = net(of(3), of(0, 0, 2));
        turnIs("a loop", g, 3, 2);
        DUE.is("time(0, 3)", g.time(0, 3), 6);
        DUE.is("and once more", g.arc(0, 0, 1), 1);
        turnIs("two loops", g, 3, 1);
    }

    private static void noSuchNodes() {
        DUE.sentence("21: NONE: no such NODES");
        GateWalk g = new GateWalk();
        DUE.is("without nodes", g.arc(0, 0, 0), -1);
        g.node(1);
        g.node(1);
        for (int node : Due.outside(0, 1)) {
            DUE.is("arc(" + node + ", 0, 1)", g.arc(node, 0, 1), -1);
            DUE.is("arc(1, " + node + ", 1)", g.arc(1, node, 1), -1);
            DUE.is("arc(" + node + ", " + node + ", 1)", g.arc(node, node, 1), -1);
        }
        DUE.is("count(5)", g.count(5), 0);
        DUE.is("from the last to the first", g.arc(1, 0, 1), 0);
        DUE.is("from the first to the last", g.arc(0, 1, 1), 1);
        g.node(1);
        DUE.is("a node that has come since", g.arc(2, 0, 1), 2);
    }

    private static void tokensOfNewArcs() {
        DUE.sentence("21: TOKENS (0 .. 9); NONE: no such TOKENS");
        GateWalk g = new GateWalk();
        g.node(1);
        for (int tokens : Due.outside(0, 9)) {
            DUE.is("arc(0, 0, " + tokens + ")", g.arc(0, 0, tokens), -1);
        }
        DUE.is("count(5)", g.count(5), 0);
        DUE.is("nine", g.arc(0, 0, 9), 0);
        turnIs("nine", g, 1, 9);
        DUE.is("none", g.arc(0, 0, 0), 1);
        DUE.is("dead", g.dead(), 1);
    }

    private static void twentyArcs() {
        DUE.sentence("21: An ARC: its number. NONE: there are twenty.");
        GateWalk g = new GateWalk();
        g.node(60);
        g.node(1);
        for (int i = 0; i < 20; i++) {
            DUE.is("arc", g.arc(0, i < 19 ? 1 : 0, 5), i);
        }
        DUE.is("a twenty-first", g.arc(0, 0, 1), -1);
        DUE.is("again", g.arc(1, 1, 0), -1);
        DUE.is("count(5)", g.count(5), 20);
        turnIs("the twentieth counts", g, 12, 1);
        DUE.is("and its tokens", g.tokens(19, 6), true);
        turnIs("the twentieth with six", g, 10, 1);
        g.clear();
        g.node(1);
        DUE.is("the first again", g.arc(0, 0, 1), 0);
    }

    private static void otherTokens() {
        DUE.sentence("22: TOKENS of an ARC are others.");
        GateWalk g = net(of(90), of(0, 0, 1));
        for (int n = 0; n <= 9; n++) {
            DUE.is("tokens(0, " + n + ")", g.tokens(0, n), true);
            DUE.is("dead", g.dead(), n == 0 ? 1 : 0);
            DUE.is("turn by tokens", g.turn(0) * n, n == 0 ? 0 : 90 * g.turn(1));
            DUE.is("the same once more", g.tokens(0, n), true);
        }
        GateWalk two = net(of(8), of(0, 0, 2), of(0, 0, 4));
        DUE.is("of the second", two.tokens(1, 1), true);
        turnIs("of the second alone", two, 8, 1);
    }

    private static void noSuchArc() {
        DUE.sentence("22: False: no such one");
        DUE.is("without arcs", new GateWalk().tokens(0, 1), false);
        GateWalk g = net(of(8), of(0, 0, 2), of(0, 0, 4));
        for (int arc : Due.outside(0, 1)) {
            DUE.is("tokens(" + arc + ", 1)", g.tokens(arc, 1), false);
        }
        turnIs("as before", g, 4, 1);
        g.clear();
        DUE.is("behind clear", g.tokens(0, 1), false);
    }

    private static void tokensOutOfBounds() {
        DUE.sentence("22: False: out of bounds.");
        GateWalk g = net(of(8), of(0, 0, 2));
        for (int n : Due.outside(0, 9)) {
            DUE.is("tokens(0, " + n + ")", g.tokens(0, n), false);
            turnIs("as before", g, 4, 1);
            DUE.is("time as before", g.time(0, 3), 16);
        }
    }

    private static void clearing() {
        DUE.sentence("23: No NODES, no ARCS any more.");
        GateWalk g = Due.of("a=a'", 1);
        g.clear();
        DUE.is("of nothing", g.count(4), 0);
        g.node(5);
        g.arc(0, 0, 0);
        DUE.is("dead", g.dead(), 1);
        g.tokens(0, 1);
        DUE.is("turn", g.turn(0), 5);
        DUE.is("helps", g.helps(), 0);
        DUE.is("time", g.time(0, 9), 45);
        g.clear();
        DUE.is("nodes", g.count(4), 0);
        DUE.is("arcs", g.count(5), 0);
        DUE.is("dead any more", g.dead(), 0);
        DUE.is("turn", g.turn(0), -1);
        DUE.is("helps", g.helps(), -1);
        DUE.is("no nodes for arcs", g.arc(0, 0, 1), -1);
        DUE.noTime(g, 0, 1);
        DUE.is("a node", g.node(7), 0);
        DUE.is("no arc of old comes back", g.time(0, 9), 7);
        DUE.is("the circuit stays", g.states(), 2);
        DUE.is("reset stays", g.count(7), 1);
    }

    // ---- promises 24 and 25

    private static void deadOrNot() {
        DUE.sentence("24: Whether some ring is DEAD (1, 0). (a ring without TOKENS is DEAD)");
        DUE.is("no nodes", new GateWalk().dead(), 0);
        DUE.is("no arcs", net(of(1, 2)).dead(), 0);
        DUE.is("no ring", net(of(1, 2), of(0, 1, 0), of(0, 1, 0)).dead(), 0);
        DUE.is("a loop", net(of(1), of(0, 0, 0)).dead(), 1);
        DUE.is("a loop with one", net(of(1), of(0, 0, 1)).dead(), 0);
        DUE.is("without delay", net(of(0), of(0, 0, 0)).dead(), 1);
        DUE.is("one of two", net(of(1), of(0, 0, 9), of(0, 0, 0)).dead(), 1);
        DUE.is("the ring of the poorer arcs", net(of(1, 1), of(0, 1, 5), of(1, 0, 0), of(0, 1, 0)).dead(), 1);
        GateWalk ten = ringOfTen(1, 0);
        DUE.is("ten without tokens", ten.dead(), 1);
        ten.tokens(9, 1);
        DUE.is("ten with one", ten.dead(), 0);
        ten.tokens(9, 0);
        ten.tokens(0, 1);
        DUE.is("ten with one elsewhere", ten.dead(), 0);
    }

    private static void eachNodeOnce() {
        DUE.sentence("all rings of ARCS (each NODE once)");
        // Twice round through node 1 would be no ring: the greatest is one of the two that it is made of.
        GateWalk g = net(of(10, 1, 30), of(0, 1, 1), of(1, 0, 1), of(1, 2, 1), of(2, 1, 1));
        turnIs("the greater of two", g, 31, 2);
        g.tokens(3, 9);
        turnIs("the other one", g, 11, 2);
    }

    private static void noTurnWhereDead() {
        DUE.sentence("25: NONE: DEAD");
        GateWalk g = net(of(5, 7), of(0, 0, 1), of(1, 1, 0));
        turnIs("another ring is alive", g, -1, -1);
        g.tokens(1, 1);
        turnIs("none is dead", g, 7, 1);
        g.arc(1, 1, 0);
        turnIs("one more is", g, -1, -1);
        turnIs("without delays too", net(of(0), of(0, 0, 0)), -1, -1);
    }

    private static void noTurnWithoutRings() {
        DUE.sentence("25: NONE: there are no rings.");
        turnIs("no nodes", new GateWalk(), -1, -1);
        turnIs("no arcs", net(of(1, 2)), -1, -1);
        GateWalk g = net(of(1, 2, 3), of(0, 1, 1), of(1, 2, 1), of(0, 2, 1), of(0, 1, 9));
        turnIs("no way back", g, -1, -1);
        g.arc(2, 0, 1);
        turnIs("a way back", g, 2, 1);
    }

    private static void turnOfWhat() {
        DUE.sentence("25: NONE: what");
        GateWalk g = net(of(7), of(0, 0, 2));
        turnIs("0 and 1", g, 7, 2);
        for (int what : Due.outside(0, 1)) {
            DUE.is("turn(" + what + ")", g.turn(what), -1);
        }
    }

    private static void lowestTerms() {
        DUE.sentence("Fractions are told in lowest terms");
        for (int delay = 1; delay <= 100; delay += 3) {
            for (int tokens = 1; tokens <= 9; tokens++) {
                int common = 1;
                for (int i = 2; i <= 9; i++) {
                    common = delay % i == 0 && tokens % i == 0 ? i : common;
                }
                GateWalk g = new GateWalk();
                g.node(delay);
                g.arc(0, 0, tokens);
                turnIs(delay + " by " + tokens, g, delay / common, tokens / common);
            }
        }
        turnIs("sums of many", net(of(6, 9), of(0, 1, 4), of(1, 0, 6)), 3, 2);
    }

    private static void turnOfZero() {
        DUE.sentence("the denominator (of 0: 1)");
        for (int tokens = 1; tokens <= 9; tokens++) {
            turnIs("0 by " + tokens, net(of(0), of(0, 0, tokens)), 0, 1);
        }
        turnIs("0 by 90", ringOfTen(0, 9), 0, 1);
        turnIs("a delay beside the ring", net(of(0, 100), of(0, 0, 3), of(0, 1, 1)), 0, 1);
    }

    private static void greatestTurns() {
        DUE.sentence("TURN is the greatest, over all rings of ARCS, of the sum of DELAYS by the sum of TOKENS");
        GateWalk g = ringOfTen(100, 0);
        g.tokens(4, 1);
        turnIs("the greatest there can be", g, 1000, 1);
        turnIs("ninety tokens", ringOfTen(100, 9), 100, 9);
        GateWalk small = new GateWalk();
        for (int i = 0; i < 10; i++) {
            small.node(i == 3 ? 1 : 0);
        }
        for (int i = 0; i < 10; i++) {
            small.arc(i, (i + 1) % 10, 9);
        }
        turnIs("the least above 0", small, 1, 90);
        for (int i = 0; i < 10; i++) {
            small.arc(i, (i + 1) % 10, 8);
        }
        turnIs("twenty arcs, the poorer ring", small, 1, 80);
        turnIs("a greater delay with more tokens is less", net(of(100, 12), of(0, 0, 9), of(1, 1, 1)), 12, 1);
    }

    // ---- promise 26

    private static void timesOfK() {
        DUE.sentence("26: The k-th time (k 1 .. 200); NoSuchElementException: k");
        GateWalk g = net(of(3), of(0, 0, 1));
        DUE.is("the first", g.time(0, 1), 3);
        DUE.is("the last", g.time(0, 200), 600);
        for (int k : Due.outside(1, 200)) {
            DUE.noTime(g, 0, k);
        }
        DUE.is("as before", g.time(0, 199), 597);
        GateWalk far = ringOfTen(100, 0);
        far.tokens(9, 1);
        DUE.is("the greatest time there can be", far.time(9, 200), 200000);
    }

    private static void timesOfNodes() {
        DUE.sentence("26: NoSuchElementException: no such NODE");
        DUE.noTime(new GateWalk(), 0, 1);
        GateWalk g = net(of(3, 4));
        DUE.is("the first", g.time(0, 1), 3);
        DUE.is("the last", g.time(1, 1), 4);
        for (int node : Due.outside(0, 1)) {
            DUE.noTime(g, node, 1);
            DUE.noTime(g, node, 201);
        }
        DUE.noTime(g, 9, 1);
        DUE.noTime(g, 10, 1);
    }

    private static void belowOne() {
        DUE.sentence("(0, if k - t is below 1)");
        for (int t = 0; t <= 9; t++) {
            GateWalk g = net(of(50, 7), of(0, 1, t));
            for (int k = 1; k <= 12; k++) {
                DUE.is(t + " tokens: time(1, " + k + ")", g.time(1, k), k - t < 1 ? 7 : 57);
            }
        }
        GateWalk loop = net(of(5), of(0, 0, 9));
        DUE.is("time(0, 9)", loop.time(0, 9), 5);
        DUE.is("time(0, 10)", loop.time(0, 10), 10);
        DUE.is("time(0, 18)", loop.time(0, 18), 10);
        DUE.is("time(0, 19)", loop.time(0, 19), 15);
        DUE.is("time(0, 200)", loop.time(0, 200), 115);
    }

    private static void withoutArcsIn() {
        DUE.sentence("(0 without ARCS in), and its DELAY");
        GateWalk g = net(of(0, 100, 6), of(2, 0, 1));
        for (int k = 1; k <= 200; k += 199) {
            DUE.is("time(1, " + k + ")", g.time(1, k), 100);
            DUE.is("arcs out do not count: time(2, " + k + ")", g.time(2, k), 6);
        }
        DUE.is("no delay", net(of(0)).time(0, 1), 0);
    }

    private static void greatestOfArcs() {
        DUE.sentence("over its ARCS in, the greatest time");
        GateWalk g = net(of(5, 9, 2), of(0, 2, 0), of(1, 2, 1), of(0, 2, 3));
        DUE.is("the first waits for node 0", g.time(2, 1), 7);
        DUE.is("the second for node 1", g.time(2, 2), 11);
        g.tokens(1, 9);
        DUE.is("not any more", g.time(2, 2), 7);
        DUE.is("not before the tenth", g.time(2, 9), 7);
        DUE.is("the tenth", g.time(2, 10), 11);
        GateWalk chain = new GateWalk();
        for (int i = 0; i < 10; i++) {
            chain.node(100);
        }
        for (int i = 0; i < 9; i++) {
            chain.arc(i + 1, i, 0);
        }
        DUE.is("ten behind one another, the last told first", chain.time(0, 1), 1000);
        DUE.is("and without a ring no more", chain.time(0, 200), 1000);
    }

    private static void timesThatAreNone() {
        DUE.sentence("26: NoSuchElementException: none (times of NODES that wait for a DEAD ring are none)");
        GateWalk g = net(of(1, 2, 3, 4, 5), of(0, 0, 0), of(0, 1, 0), of(1, 2, 2), of(3, 0, 0));
        for (int k = 1; k <= 200; k += 199) {
            DUE.noTime(g, 0, k);
            DUE.noTime(g, 1, k);
            DUE.is("what the ring waits for", g.time(3, k), 4);
            DUE.is("what is beside it", g.time(4, k), 5);
        }
        DUE.is("does not wait yet", g.time(2, 2), 3);
        DUE.noTime(g, 2, 3);
        DUE.noTime(g, 2, 200);
        g.tokens(0, 1);
        DUE.is("the ring is alive", g.time(0, 1), 5);
        DUE.is("and what waits for it", g.time(2, 3), 10);
        DUE.noTime(ringOfTen(100, 0), 9, 200);
    }

    // ---- promise 27

    private static void leastTurn() {
        DUE.sentence("27: Of all ARCS the one whose TOKENS, being one more, make TURN least");
        // With a token more on arc 0 the loop of node 1 holds it at 10; on arc 1 the ring is at 9.
        GateWalk g = net(of(8, 10), of(0, 1, 1), of(1, 1, 1), of(1, 0, 1), of(0, 0, 1));
        turnIs("before", g, 10, 1);
        DUE.is("helps()", g.helps(), 1);
        turnIs("nothing is put there", g, 10, 1);
        DUE.is("asked again", g.helps(), 1);
        // Arcs 0 and 1 both help the ring of nodes 0 and 1; arc 1 helps the next greatest too.
        GateWalk more = net(of(30, 30, 40), of(0, 1, 0), of(1, 0, 1), of(0, 2, 1), of(2, 1, 0));
        turnIs("two rings", more, 60, 1);
        DUE.is("the one that makes it least", more.helps(), 1);
        GateWalk twenty = new GateWalk();
        twenty.node(1);
        twenty.node(50);
        for (int i = 0; i < 19; i++) {
            twenty.arc(0, 1, 1);
        }
        twenty.arc(1, 1, 9);
        DUE.is("the last of twenty, with nine tokens", twenty.helps(), 19);
        turnIs("nothing is put there", twenty, 50, 9);
    }

    private static void ofSeveralTheLowest() {
        DUE.sentence("27: (of several the lowest)");
        GateWalk ten = ringOfTen(10, 1);
        DUE.is("ten alike", ten.helps(), 0);
        DUE.is("two alike", net(of(4, 6), of(0, 1, 1), of(1, 0, 1)).helps(), 0);
        GateWalk behind = net(of(4, 6, 1), of(2, 2, 1), of(0, 1, 1), of(1, 0, 1));
        DUE.is("those that help", behind.helps(), 1);
    }

    private static void noTurnNoHelp() {
        DUE.sentence("27: NONE: no TURN");
        DUE.is("no nodes", new GateWalk().helps(), -1);
        DUE.is("no arcs", net(of(5)).helps(), -1);
        DUE.is("no rings", net(of(5, 6), of(0, 1, 1)).helps(), -1);
        GateWalk g = net(of(5), of(0, 0, 0));
        DUE.is("dead, though one more would wake it", g.helps(), -1);
        g.tokens(0, 1);
        DUE.is("alive", g.helps(), 0);
    }

    private static void notLessByAny() {
        DUE.sentence("27: NONE: it does not get less by any.");
        DUE.is("a turn of 0", net(of(0), of(0, 0, 1)).helps(), -1);
        GateWalk two = net(of(5, 5), of(0, 0, 1), of(1, 1, 1));
        DUE.is("two rings alike", two.helps(), -1);
        two.tokens(1, 2);
        DUE.is("one of them less", two.helps(), 0);
        DUE.is("two arcs beside one another", net(of(5), of(0, 0, 3), of(0, 0, 3)).helps(), -1);
    }

    // ---- promise 28

    private static void counts() {
        DUE.sentence("28: 0 EQUATIONS, 1 TERMS of all (0 or 1 for all counts as one), 2 HAZARDS, 3 STOPS, 4 NODES, "
                + "5 ARCS, 6 bytes of the TAPE, 7 RESET.");
        GateWalk g = Due.of("a=b'+c;b=a';d=0;e=1", 8);
        g.node(1);
        g.arc(0, 0, 1);
        g.arc(0, 0, 1);
        g.feed(-1, 0, 0, 0, 0);
        int[] want = {4, 5, 8, 2, 1, 2, 4, 8};
        for (int what = 0; what < 8; what++) {
            DUE.is("count(" + what + ")", g.count(what), want[what]);
        }
        DUE.is("0 alone is a term", Due.of("a=0", 0).count(1), 1);
        DUE.is("1 alone is a term", Due.of("a=1", 0).count(1), 1);
        DUE.is("like terms count each", Due.of("a=b+b+b", 0).count(1), 3);
        DUE.is("no terms", new GateWalk().count(1), 0);
        // Of the shortest terms more do not come into 300 bytes.
        String twelve = "=" + Due.times(12, "b", "+") + ";";
        GateWalk full = Due.of("a" + twelve + "b" + twelve + "c" + twelve + "d" + twelve + "e" + twelve + "f" + twelve
                + "g" + twelve + "h" + twelve + "i" + twelve + "j" + twelve + "k" + twelve + "l=b+b+b+b+b+b", 0);
        DUE.is("many terms", full.count(1), 138);
    }

    private static void countsOfOthers() {
        DUE.sentence("28: NONE for others.");
        GateWalk g = Due.of("a=a'", 0);
        for (int what : Due.outside(0, 7)) {
            DUE.is("count(" + what + ")", g.count(what), -1);
        }
    }
}
