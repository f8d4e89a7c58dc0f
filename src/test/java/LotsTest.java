import java.math.BigInteger;

/** Promises 18 and 19: run and changed. */
final class LotsTest {
    private static final BigInteger FACTOR = new BigInteger("6364136223846793005");
    private static final BigInteger ADDEND = new BigInteger("1442695040888963407");
    private static final BigInteger ROUND = BigInteger.ONE.shiftLeft(64);

    public static void main(String[] args) {
        Due due = new Due();
        refuses(due);
        endsEarly(due);
        byHand(due);
        long[] seeds = {0, 1, 5, -1, Long.MAX_VALUE, Long.MIN_VALUE, 123456789012345L};
        for (long seed : seeds) {
            freeSignals(due, seed);
        }
        due.finish();
    }

    private static void refuses(Due due) {
        GateWalk g = Due.of("a=a'", 0);
        int[] wrong = {-1, 2001, Integer.MAX_VALUE, Integer.MIN_VALUE};
        for (int n : wrong) {
            due.is("run(" + n + ")", g.run(n, 1), -1);
            due.is("changed(" + n + ")", g.changed(n, 1, 0), -1);
        }
        due.is("changed of -1", g.changed(3, 1, -1), -1);
        due.is("changed of 12", g.changed(3, 1, 12), -1);
        due.is("changed of 11", g.changed(3, 1, 11), 0);
        due.is("run(0)", g.run(0, 1), 0);
        due.is("changed(0)", g.changed(0, 1, 0), 0);
        due.is("run(2000)", g.run(2000, 1), 0);
        due.is("changed(2000)", g.changed(2000, 1, 0), 2000);
        due.is("run(1999)", g.run(1999, 1), 1);
    }

    private static void endsEarly(Due due) {
        GateWalk g = Due.of("a=1;b=a", 4);
        due.is("run(1)", g.run(1, 7), 5);
        due.is("run(2)", g.run(2, 7), 7);
        due.is("run(2000)", g.run(2000, 7), 7);
        due.is("changed", g.changed(2000, 7, 1), 1);
        due.is("it starts from reset each time", g.run(1, 7), 5);
        g.stuck(0, true);
        due.is("nothing asked", g.run(10, 7), 4);
    }

    /** Seed 0: the first lot is the addend; shifted right by 33 it is 167951807: of two place 1, of three place 2. */
    private static void byHand(Due due) {
        GateWalk two = Due.of("a=1;c=1", 0);
        due.is("of two", two.run(1, 0), 4);
        GateWalk three = Due.of("a=1;c=1;l=1", 0);
        due.is("of three", three.run(1, 0), 2048);
        due.is("where one alone is asked", Due.of("k=1", 0).run(1, 0), 1024);
    }

    /** All signals are asked in every state, so that the lots alone decide. */
    private static void freeSignals(Due due, long seed) {
        GateWalk g = Due.of("b=b';d=d';e=e';h=h';l=l'", 1);
        int[] signals = {1, 3, 4, 7, 11};
        int[] changes = new int[12];
        int state = 1;
        BigInteger x = BigInteger.valueOf(seed).mod(ROUND);
        for (int n = 0; n <= 60; n++) {
            due.is("run(" + n + ", " + seed + ")", g.run(n, seed), state);
            for (int s = 0; s < 12 && n % 20 == 0; s++) {
                due.is("changed(" + n + ", " + seed + ", " + s + ")", g.changed(n, seed, s), changes[s]);
            }
            x = x.multiply(FACTOR).add(ADDEND).mod(ROUND);
            int signal = signals[x.shiftRight(33).mod(BigInteger.valueOf(5)).intValue()];
            state ^= 1 << signal;
            changes[signal]++;
        }
    }
}
