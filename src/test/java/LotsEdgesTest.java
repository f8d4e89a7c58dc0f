import java.math.BigInteger;

/** The boundary cases of runs by lots: part 2 of the terms, promises 18 and 19. */
final class LotsEdgesTest {
    private static final String ALL_FREE = "a=a';b=b';c=c';d=d';e=e';f=f';g=g';h=h';i=i';j=j';k=k';l=l'";
    private static final long[] SEEDS = {0, 1, -1, 5, 2147483647L, 2147483648L, 4294967296L, -4294967297L,
        Long.MAX_VALUE, Long.MAX_VALUE - 1, Long.MIN_VALUE, Long.MIN_VALUE + 1};
    private static final Due DUE = new Due();

    public static void main(String[] args) {
        fromReset();
        goingRound();
        withoutSign();
        moduloHowMany();
        endsEarly();
        atMost();
        noChanges();
        wrongLength();
        wrongLengthOfChanged();
        noSuchSignal();
        DUE.finish();
    }

    /** The lot in place n (from 1 on), by numbers that do not go round by themselves. */
    private static BigInteger lot(int n, long seed) {
        BigInteger round = BigInteger.ONE.shiftLeft(64);
        BigInteger x = BigInteger.valueOf(seed);
        for (int i = 0; i < n; i++) {
            x = x.multiply(new BigInteger("6364136223846793005")).add(new BigInteger("1442695040888963407")).mod(round);
        }
        return x;
    }

    private static int placeOf(BigInteger lot, int choices) {
        return lot.shiftRight(33).mod(BigInteger.valueOf(choices)).intValue();
    }

    private static void fromReset() {
        DUE.sentence("A RUN of n changes by lots from RESET");
        int[] resets = {0, 1, 2048, 4095};
        for (int reset : resets) {
            GateWalk g = Due.of("a=a'", reset);
            DUE.is("run(1, 3)", g.run(1, 3), reset ^ 1);
            DUE.is("again from reset", g.run(1, 3), reset ^ 1);
            DUE.is("run(2, 3)", g.run(2, 3), reset);
            DUE.is("reset stays", g.count(7), reset);
        }
    }

    private static void goingRound() {
        DUE.sentence("x, at first seed, becomes x times 6364136223846793005 and 1442695040888963407 "
                + "(64 bits, going round)");
        for (long seed : SEEDS) {
            GateWalk g = Due.of(ALL_FREE, 0);
            int state = 0;
            for (int n = 1; n <= 40; n++) {
                state ^= 1 << placeOf(lot(n, seed), 12);
                DUE.is("run(" + n + ", " + seed + ")", g.run(n, seed), state);
            }
        }
    }

    private static void withoutSign() {
        DUE.sentence("(x shifted right by 33, without sign)");
        int high = 0;
        for (long seed = 0; seed < 60; seed++) {
            BigInteger x = lot(1, seed);
            high += x.testBit(63) ? 1 : 0;
            GateWalk g = Due.of("c=1;g=1;l=1", 0);
            int[] signals = {2, 6, 11};
            DUE.is("run(1, " + seed + ")", g.run(1, seed), 1 << signals[placeOf(x, 3)]);
        }
        DUE.is("some lots have the highest bit, some not", high > 9 && high < 51, true);
    }

    private static void moduloHowMany() {
        DUE.sentence("of the ASKED SIGNALS, in order, the one in the place modulo how many there are changes");
        for (int stuck = 0; stuck <= 11; stuck++) {
            GateWalk g = Due.of(ALL_FREE, 0);
            for (int x = 0; x < stuck; x++) {
                g.stuck(x, true);
            }
            for (long seed = 1; seed <= 20; seed++) {
                int x = stuck + placeOf(lot(1, seed), 12 - stuck);
                DUE.is("of " + (12 - stuck) + ": run(1, " + seed + ")", g.run(1, seed), 1 << x);
                DUE.is("changed", g.changed(1, seed, x), 1);
            }
        }
    }

    private static void endsEarly() {
        DUE.sentence("it ends early where none is ASKED");
        DUE.is("at once", new GateWalk().run(2000, 1), 0);
        DUE.is("nothing changed", new GateWalk().changed(2000, 1, 0), 0);
        GateWalk g = Due.of("a=1;b=1;l=ab", 0);
        for (long seed : SEEDS) {
            DUE.is("run(3, ..)", g.run(3, seed), 2051);
            DUE.is("run(4, ..)", g.run(4, seed), 2051);
            DUE.is("run(2000, ..)", g.run(2000, seed), 2051);
            DUE.is("changed(2000, .., 0)", g.changed(2000, seed, 0), 1);
            DUE.is("changed(2000, .., 11)", g.changed(2000, seed, 11), 1);
            DUE.is("changed(2, .., 11)", g.changed(2, seed, 11), 0);
            DUE.is("changed(2000, .., 2)", g.changed(2000, seed, 2), 0);
        }
        g.stuck(0, true);
        g.stuck(1, true);
        DUE.is("all that could are stuck", g.run(2000, 1), 0);
    }

    private static void atMost() {
        DUE.sentence("n changes (at most 2,000)");
        GateWalk g = Due.of("a=a'", 0);
        DUE.is("run(1999, 1)", g.run(1999, 1), 1);
        DUE.is("run(2000, 1)", g.run(2000, 1), 0);
        DUE.is("run(2001, 1)", g.run(2001, 1), -1);
        DUE.is("changed(1999, 1, 0)", g.changed(1999, 1, 0), 1999);
        DUE.is("changed(2000, 1, 0)", g.changed(2000, 1, 0), 2000);
        DUE.is("changed(2001, 1, 0)", g.changed(2001, 1, 0), -1);
        GateWalk all = Due.of(ALL_FREE, 0);
        int sum = 0;
        int state = 0;
        for (int x = 0; x < 12; x++) {
            int times = all.changed(2000, 9, x);
            sum += times;
            state |= times % 2 << x;
        }
        DUE.is("all changes", sum, 2000);
        DUE.is("they lead to the last state", all.run(2000, 9), state);
    }

    private static void noChanges() {
        DUE.sentence("A RUN of n changes (none)");
        GateWalk g = Due.of(ALL_FREE, 4095);
        for (long seed : SEEDS) {
            DUE.is("run(0, " + seed + ")", g.run(0, seed), 4095);
            DUE.is("changed(0, " + seed + ", 0)", g.changed(0, seed, 0), 0);
            DUE.is("changed(0, " + seed + ", 11)", g.changed(0, seed, 11), 0);
        }
    }

    private static void wrongLength() {
        DUE.sentence("18: NONE: n.");
        GateWalk g = Due.of("a=a'", 0);
        for (int n : Due.outside(0, 2000)) {
            DUE.is("run(" + n + ", 1)", g.run(n, 1), -1);
            DUE.is("where nothing is asked: run(" + n + ", 1)", new GateWalk().run(n, 1), -1);
        }
    }

    private static void wrongLengthOfChanged() {
        DUE.sentence("19: NONE: n");
        GateWalk g = Due.of("a=a'", 0);
        for (int n : Due.outside(0, 2000)) {
            DUE.is("changed(" + n + ", 1, 0)", g.changed(n, 1, 0), -1);
            DUE.is("changed(" + n + ", 1, 11)", g.changed(n, 1, 11), -1);
            DUE.is("changed(" + n + ", 1, 12)", g.changed(n, 1, 12), -1);
        }
    }

    private static void noSuchSignal() {
        DUE.sentence("19: NONE: no such SIGNAL.");
        GateWalk g = Due.of("a=a';l=l'", 0);
        DUE.is("the first and the last", g.changed(50, 1, 0) + g.changed(50, 1, 11), 50);
        DUE.is("one without an equation", g.changed(50, 1, 5), 0);
        for (int x : Due.outside(0, 11)) {
            DUE.is("changed(50, 1, " + x + ")", g.changed(50, 1, x), -1);
            DUE.is("changed(0, 1, " + x + ")", g.changed(0, 1, x), -1);
        }
    }
}
