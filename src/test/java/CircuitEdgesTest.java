/** The boundary cases of circuits and of what is set in them: part 1 of the terms, promises 1, 5, 6, 7 and 8. */
final class CircuitEdgesTest {
    private static final Due DUE = new Due();

    public static void main(String[] args) {
        newObject();
        calls();
        none();
        bits();
        someTerm();
        withoutEquation();
        tapeIsTheText();
        resetInAState();
        nothingSetAnyMore();
        faultRefused();
        stateRefused();
        pair();
        noSuchPair();
        alikePair();
        pairIsSo();
        stuckNeverAsked();
        noSuchStuck();
        stuckIsSo();
        askedOfStates();
        DUE.finish();
    }

    private static void newObject() {
        DUE.sentence("1: No EQUATIONS, RESET in 0; nothing STUCK, no ARBITERS, no NODES.");
        GateWalk g = new GateWalk();
        int[] counts = {0, 0, 0, 1, 0, 0, 0, 0};
        for (int what = 0; what < 8; what++) {
            DUE.is("count(" + what + ")", g.count(what), counts[what]);
        }
        DUE.is("the walk is reset alone", g.states(), 1);
        DUE.is("reset is in 0", g.state(0), 0);
        for (int x = 0; x < 12; x++) {
            DUE.is("nothing is stuck", g.stuck(x, false), false);
            for (int y = 0; y < x; y++) {
                DUE.is("no arbiters", g.arbiter(x, y, false), false);
            }
        }
        DUE.is("no node takes an arc", g.arc(0, 0, 0), -1);
        DUE.is("no arc takes tokens", g.tokens(0, 0), false);
        DUE.noTime(g, 0, 1);
    }

    private static void calls() {
        DUE.sentence("An object is used for at most 512 calls after it has been made");
        GateWalk g = new GateWalk();
        g.feed(0x613d6127, 0, 0, 0, 0);
        g.circuit(0);
        for (int i = 3; i < 511; i++) {
            g.stuck(0, i % 2 == 1);
        }
        DUE.is("the 511th", g.stuck(0, true), true);
        DUE.is("the 512th", g.states(), 1);
    }

    private static void none() {
        DUE.sentence("NONE = -1: There is none; refused.");
        DUE.is("NONE", GateWalk.NONE, -1);
    }

    private static void bits() {
        DUE.sentence("a STATE (bits, a bit 0)");
        String all = "abcdefghijkl";
        for (int x = 0; x < 12; x++) {
            GateWalk g = Due.of(all.charAt(x) + "=1", 0);
            DUE.is("asked(0) of " + all.charAt(x), g.asked(0), 1 << x);
            DUE.is("behind its change", g.state(1), 1 << x);
            g = Due.of("a=" + all.charAt(x) + "'", 0);
            DUE.is("asked in 4094", g.asked(4094), x == 0 ? 1 : 0);
            DUE.is("asked in 4094 without it", g.asked(4094 & ~(1 << x)), 1);
        }
    }

    private static void someTerm() {
        DUE.sentence("the value of its EQUATION (1, if some TERM has all LITERALS 1) is another than its own");
        GateWalk g = Due.of("a=bc'+de;f=gg';h=g+g'", 0);
        DUE.is("no term of a", g.asked(0), 128);
        DUE.is("the first term", g.asked(2), 1 + 128);
        DUE.is("not all of the first", g.asked(2 + 4), 128);
        DUE.is("not all of the second", g.asked(8), 128);
        DUE.is("the second term", g.asked(8 + 16), 1 + 128);
        DUE.is("both terms", g.asked(2 + 8 + 16), 1 + 128);
        DUE.is("its own value is that", g.asked(1 + 2), 128);
        DUE.is("its own is another", g.asked(1), 1 + 128);
        DUE.is("a signal and its other value are never both 1", g.asked(32 + 64 + 128), 32);
        DUE.is("one of the two is always 1", g.asked(64 + 128), 0);
        GateWalk l = Due.of("l=kl'", 0);
        DUE.is("its own value counts in its equation", l.asked(1024), 2048);
        DUE.is("and then again", l.asked(1024 + 2048), 2048);
    }

    private static void withoutEquation() {
        DUE.sentence("A SIGNAL with an EQUATION is ASKED");
        GateWalk g = Due.of("b=a", 0);
        for (int state = 0; state < 4096; state += 13) {
            DUE.is("asked(" + state + ")", g.asked(state) & ~2, 0);
        }
    }

    // ---- promise 5

    private static void tapeIsTheText() {
        DUE.sentence("5: The TAPE (empty then) is the TEXT");
        GateWalk g = new GateWalk();
        Due.feed(g, "a=1");
        DUE.is("circuit(0)", g.circuit(0), true);
        DUE.is("the tape is empty", g.count(6), 0);
        DUE.is("end(1) of it", g.end(1), false);
        DUE.is("asked", g.asked(0), 1);
        DUE.is("an empty tape is a text", g.circuit(0), true);
        DUE.is("nothing of the old one stays", g.asked(0), 0);
        Due.feed(g, "b=1");
        DUE.is("fed anew, three bytes", g.count(6), 3);
        DUE.is("circuit(0)", g.circuit(0), true);
        DUE.is("asked", g.asked(0), 2);
        Due.feed(g, "  ");
        DUE.is("blanks", g.circuit(0), true);
        DUE.is("no equations", g.count(0), 0);
        DUE.is("no terms", g.count(1), 0);
    }

    private static void resetInAState() {
        DUE.sentence("5: RESET is in a STATE (0 .. 4,095)");
        int[] states = {0, 1, 2048, 4094, 4095};
        GateWalk g = new GateWalk();
        for (int state : states) {
            Due.feed(g, "a=1;l=0");
            DUE.is("circuit(" + state + ")", g.circuit(state), true);
            DUE.is("count(7)", g.count(7), state);
            DUE.is("state(0)", g.state(0), state);
            DUE.is("run(0, 1)", g.run(0, 1), state);
            DUE.is("run(2, 1)", g.run(2, 1), (state | 1) & 2047);
        }
    }

    private static void nothingSetAnyMore() {
        DUE.sentence("5: no ARBITERS, nothing STUCK.");
        GateWalk g = Due.of("a=b';b=a'", 0);
        g.arbiter(0, 1, true);
        g.arbiter(11, 10, true);
        g.stuck(11, true);
        DUE.is("hazards before", g.count(2), 0);
        Due.feed(g, "a=b';b=a';l=l'");
        DUE.is("circuit", g.circuit(0), true);
        DUE.is("hazards behind", g.count(2), 4);
        DUE.is("l is asked", g.asked(0), 1 + 2 + 2048);
        DUE.is("no pair", g.arbiter(1, 0, false), false);
        DUE.is("no pair", g.arbiter(10, 11, false), false);
        DUE.is("not stuck", g.stuck(11, false), false);
    }

    private static void faultRefused() {
        DUE.sentence("5: False: a FAULT");
        String[] wrong = {"?", "a", "a=", "a=b;", "a=b;a=c", "a=bbbbbbbbb", "a=b+0", ";"};
        for (String text : wrong) {
            GateWalk g = Due.of("c=c'", 5);
            g.stuck(0, true);
            Due.feed(g, text);
            DUE.is("circuit(0) of " + text, g.circuit(0), false);
            DUE.is("the tape stays", g.count(6), text.length());
            DUE.is("the text stays", g.asked(0), 4);
            DUE.is("one equation stays", g.count(0), 1);
            DUE.is("one term stays", g.count(1), 1);
            DUE.is("reset stays", g.count(7), 5);
            DUE.is("the walk stays", g.states(), 2);
            DUE.is("stuck stays", g.stuck(0, true), false);
        }
    }

    private static void stateRefused() {
        DUE.sentence("5: False: the STATE.");
        for (int state : Due.outside(0, 4095)) {
            GateWalk g = Due.of("c=c'", 5);
            g.arbiter(3, 4, true);
            Due.feed(g, "a=1");
            DUE.is("circuit(" + state + ")", g.circuit(state), false);
            DUE.is("the tape stays", g.count(6), 3);
            DUE.is("the text stays", g.asked(0), 4);
            DUE.is("reset stays", g.count(7), 5);
            DUE.is("the pair stays", g.arbiter(4, 3, true), false);
            DUE.is("then with a state", g.circuit(4095), true);
        }
    }

    // ---- promise 6

    private static void pair() {
        DUE.sentence("6: Two SIGNALS (0 .. 11) are an ARBITER's pair, or not.");
        for (int x = 0; x < 12; x++) {
            for (int y = 0; y < 12; y++) {
                if (x != y) {
                    GateWalk g = new GateWalk();
                    DUE.is("arbiter(" + x + ", " + y + ")", g.arbiter(x, y, true), true);
                    DUE.is("the other way round", g.arbiter(y, x, true), false);
                    DUE.is("not any more", g.arbiter(y, x, false), true);
                    DUE.is("and this way", g.arbiter(x, y, true), true);
                }
            }
        }
        GateWalk g = new GateWalk();
        g.arbiter(0, 1, true);
        g.arbiter(1, 2, true);
        DUE.is("pairs are not handed on", g.arbiter(0, 2, false), false);
        g.arbiter(0, 1, false);
        DUE.is("each goes alone", g.arbiter(1, 2, true), false);
    }

    private static void noSuchPair() {
        DUE.sentence("6: False: no such ones");
        for (int wrong : Due.outside(0, 11)) {
            GateWalk g = new GateWalk();
            DUE.is("arbiter(" + wrong + ", 0)", g.arbiter(wrong, 0, true), false);
            DUE.is("arbiter(11, " + wrong + ")", g.arbiter(11, wrong, true), false);
            DUE.is("arbiter(" + wrong + ", 0), not", g.arbiter(wrong, 0, false), false);
            DUE.is("arbiter(11, " + wrong + "), not", g.arbiter(11, wrong, false), false);
            DUE.is("both wrong", g.arbiter(wrong, wrong - 1, true), false);
            DUE.is("alike and wrong", g.arbiter(wrong, wrong, true), false);
        }
    }

    private static void alikePair() {
        DUE.sentence("6: False: alike");
        GateWalk g = new GateWalk();
        for (int x = 0; x < 12; x++) {
            DUE.is("arbiter(" + x + ", " + x + ", true)", g.arbiter(x, x, true), false);
            DUE.is("arbiter(" + x + ", " + x + ", false)", g.arbiter(x, x, false), false);
        }
    }

    private static void pairIsSo() {
        DUE.sentence("6: False: it is so.");
        GateWalk g = Due.of("a=b';b=a'", 0);
        DUE.is("no pair is none", g.arbiter(0, 1, false), false);
        DUE.is("hazards", g.count(2), 2);
        DUE.is("a pair", g.arbiter(0, 1, true), true);
        DUE.is("a pair is one", g.arbiter(0, 1, true), false);
        DUE.is("either way round", g.arbiter(1, 0, true), false);
        DUE.is("hazards", g.count(2), 0);
        DUE.is("none any more", g.arbiter(0, 1, false), true);
        DUE.is("is none", g.arbiter(1, 0, false), false);
        DUE.is("hazards", g.count(2), 2);
    }

    // ---- promise 7

    private static void stuckNeverAsked() {
        DUE.sentence("A SIGNAL may be STUCK (then it is never ASKED).");
        for (int x = 0; x < 12; x++) {
            GateWalk g = Due.of("a=a';b=b';c=c';d=d';e=e';f=f';g=g';h=h';i=i';j=j';k=k';l=l'", 0);
            DUE.is("stuck(" + x + ", true)", g.stuck(x, true), true);
            DUE.is("asked(0)", g.asked(0), 4095 & ~(1 << x));
            DUE.is("asked(4095)", g.asked(4095), 4095 & ~(1 << x));
            DUE.is("changed", g.changed(300, 7, x), 0);
            DUE.is("live", g.live(x), 0);
            DUE.is("half of the states", g.states(), 2048);
            DUE.is("not any more", g.stuck(x, false), true);
            DUE.is("asked(0)", g.asked(0), 4095);
        }
    }

    private static void noSuchStuck() {
        DUE.sentence("7: False: no such one");
        GateWalk g = Due.of("a=a';l=l'", 0);
        for (int x : Due.outside(0, 11)) {
            DUE.is("stuck(" + x + ", true)", g.stuck(x, true), false);
            DUE.is("stuck(" + x + ", false)", g.stuck(x, false), false);
            DUE.is("asked(0)", g.asked(0), 1 + 2048);
        }
    }

    private static void stuckIsSo() {
        DUE.sentence("7: False: it is so.");
        GateWalk g = Due.of("a=a'", 0);
        int[] some = {0, 3, 11};
        for (int x : some) {
            DUE.is("not stuck", g.stuck(x, false), false);
            DUE.is("stuck", g.stuck(x, true), true);
            DUE.is("is stuck", g.stuck(x, true), false);
            DUE.is("not any more", g.stuck(x, false), true);
            DUE.is("is not", g.stuck(x, false), false);
        }
        DUE.is("asked as before", g.asked(0), 1);
    }

    // ---- promise 8

    private static void askedOfStates() {
        DUE.sentence("8: Which SIGNALS are ASKED in a STATE, as bits. NONE: no such STATE.");
        GateWalk g = Due.of("a=a';l=l'", 0);
        DUE.is("asked(0)", g.asked(0), 1 + 2048);
        DUE.is("asked(4095)", g.asked(4095), 1 + 2048);
        DUE.is("in a state that is not reached", g.asked(2), 1 + 2048);
        for (int state : Due.outside(0, 4095)) {
            DUE.is("asked(" + state + ")", g.asked(state), -1);
        }
        DUE.is("nothing asked is 0", Due.of("a=a", 0).asked(4095), 0);
    }
}
