import java.util.NoSuchElementException;
import java.util.Random;

/** All promises: long runs of calls drawn by fixed seeds, each answered by the class and by PlainModel. */
final class ModelTest {
    private static final int CALLS = 512;
    private static final int[] EDGES = {-1, 0, 1, 11, 12, 4095, 4096, Integer.MAX_VALUE, Integer.MIN_VALUE};

    private final Due due = new Due();
    private Random random;
    private GateWalk g;
    private PlainModel m;
    private String run;
    private int calls;

    public static void main(String[] args) {
        int runs = args.length > 0 ? Integer.parseInt(args[0]) : 150;
        ModelTest test = new ModelTest();
        for (int seed = 0; seed < runs; seed++) {
            test.oneRun(seed);
        }
        test.due.finish();
    }

    private void oneRun(int seed) {
        random = new Random(seed);
        g = new GateWalk();
        m = new PlainModel();
        run = "seed " + seed;
        calls = 0;
        int signals = 1 + random.nextInt(seed % 10 == 0 ? 12 : 6);
        int nodes = 1 + random.nextInt(10);
        // Some room is left for the calls that a new text takes.
        while (calls < CALLS - 40) {
            int part = random.nextInt(30);
            if (part == 0) {
                newText(signals);
            } else if (part < 3) {
                tape();
            } else if (part < 5) {
                settings(signals);
            } else if (part < 17) {
                walk();
            } else if (part < 21) {
                net(nodes);
            } else {
                rings();
            }
        }
    }

    private void same(String call, long got, long want) {
        calls++;
        due.is(run + ", call " + calls + ": " + call, got, want);
    }

    private void same(String call, boolean got, boolean want) {
        same(call, got ? 1 : 0, want ? 1 : 0);
    }

    /** Mostly below n, at times at an edge. */
    private int below(int n) {
        return random.nextInt(12) == 0 ? EDGES[random.nextInt(EDGES.length)] : random.nextInt(n);
    }

    private int reached() {
        return random.nextInt(4) == 0 ? below(4096) : m.state(random.nextInt(m.states()));
    }

    // ---- texts

    private String blanks() {
        return random.nextInt(20) == 0 ? " " : "";
    }

    private String terms(int signals) {
        if (random.nextInt(12) == 0) {
            return random.nextInt(2) + blanks();
        }
        StringBuilder all = new StringBuilder();
        int terms = random.nextInt(30) == 0 ? 11 + random.nextInt(3) : 1 + random.nextInt(3);
        for (int i = 0; i < terms; i++) {
            all.append(i == 0 ? "" : "+");
            int literals = random.nextInt(40) == 0 ? 7 + random.nextInt(3) : 1 + random.nextInt(3);
            for (int j = 0; j < literals; j++) {
                all.append((char) ('a' + random.nextInt(signals))).append(blanks());
                all.append(random.nextBoolean() ? "'" : "").append(blanks());
            }
        }
        return all.toString();
    }

    private String newTextOf(int signals) {
        StringBuilder all = new StringBuilder(blanks());
        for (int x = 0; x < signals; x++) {
            if (random.nextInt(8) != 0) {
                all.append(all.toString().isBlank() ? "" : ";");
                int y = random.nextInt(40) == 0 ? random.nextInt(signals) : x;
                all.append((char) ('a' + y)).append(blanks()).append('=').append(blanks()).append(terms(signals));
            }
        }
        if (random.nextInt(4) == 0) {
            spoil(all);
        }
        return all.length() > 300 ? all.substring(0, 300) : all.toString();
    }

    private void spoil(StringBuilder all) {
        String signs = "abklm=+;'01 x\u00ff";
        int at = random.nextInt(all.length() + 1);
        if (random.nextBoolean() && at < all.length()) {
            all.deleteCharAt(at);
        } else {
            all.insert(at, signs.charAt(random.nextInt(signs.length())));
        }
    }

    private void newText(int signals) {
        same("end(0)", g.end(0), m.end(0));
        byte[] bytes = newTextOf(signals).getBytes(java.nio.charset.StandardCharsets.ISO_8859_1);
        for (int i = 0; i < bytes.length; i += 20) {
            feed(Due.pack(bytes, i), Due.pack(bytes, i + 4), Due.pack(bytes, i + 8), Due.pack(bytes, i + 12),
                    Due.pack(bytes, i + 16));
        }
        same("fault()", g.fault(), m.fault());
        int state = below(4096);
        same("circuit(" + state + ")", g.circuit(state), m.circuit(state));
    }

    private void feed(int a, int b, int c, int d, int e) {
        same("feed(..)", g.feed(a, b, c, d, e), m.feed(a, b, c, d, e));
    }

    private void tape() {
        int n = below(40);
        switch (random.nextInt(4)) {
            case 0:
                feed(random.nextInt(), 0x61003d62, random.nextInt(3) * 0x202020, 0x3b, random.nextInt());
                break;
            case 1:
                same("end(" + n + ")", g.end(n), m.end(n));
                break;
            case 2:
                same("fault()", g.fault(), m.fault());
                break;
            default:
                same("circuit(" + n + ")", g.circuit(n), m.circuit(n));
        }
    }

    private void settings(int signals) {
        int x = below(signals);
        int y = below(signals);
        boolean is = random.nextBoolean();
        if (random.nextInt(3) == 0) {
            is &= random.nextInt(3) == 0;
            same("stuck(" + x + ", " + is + ")", g.stuck(x, is), m.stuck(x, is));
        } else {
            same("arbiter(" + x + ", " + y + ", " + is + ")", g.arbiter(x, y, is), m.arbiter(x, y, is));
        }
    }

    // ---- questions of the walk

    private void walk() {
        int state = reached();
        int i = below(8);
        switch (random.nextInt(13)) {
            case 0:
                same("asked(" + state + ")", g.asked(state), m.asked(state));
                break;
            case 1:
                same("states()", g.states(), m.states());
                break;
            case 2:
                int place = below(m.states() + 1);
                same("state(" + place + ")", g.state(place), m.state(place));
                break;
            case 3:
                same("place(" + state + ")", g.place(state), m.place(state));
                break;
            case 4:
                int hazard = below(m.count(2) + 1);
                for (int what = -1; what < 4; what++) {
                    same("hazard(" + hazard + ", " + what + ")", g.hazard(hazard, what), m.hazard(hazard, what));
                }
                break;
            case 5:
                same("stop(" + i + ")", g.stop(i), m.stop(i));
                break;
            case 6:
                same("way(" + state + ")", g.way(state), m.way(state));
                break;
            case 7:
                same("change(" + state + ", " + i + ")", g.change(state, i), m.change(state, i));
                break;
            case 8:
                same("live(" + i + ")", g.live(i), m.live(i));
                break;
            case 9:
                int set = reached() & random.nextInt(4096);
                same("both(" + set + ")", g.both(set), m.both(set));
                break;
            case 10:
                same("both(" + state + ")", g.both(state), m.both(state));
                break;
            case 11:
                int what = below(9);
                same("count(" + what + ")", g.count(what), m.count(what));
                break;
            default:
                lots(i);
        }
    }

    private void lots(int x) {
        int n = random.nextInt(20) == 0 ? 1999 + random.nextInt(3) : below(100);
        long seed = random.nextBoolean() ? random.nextLong() : random.nextInt(10);
        same("run(" + n + ", " + seed + ")", g.run(n, seed), m.run(n, seed));
        same("changed(" + n + ", " + seed + ", " + x + ")", g.changed(n, seed, x), m.changed(n, seed, x));
    }

    // ---- nets and what is asked of them

    private void net(int nodes) {
        int a = below(nodes);
        int b = below(nodes);
        int t = random.nextInt(15) == 0 ? below(11) : random.nextInt(4);
        int kind = random.nextInt(40);
        if (kind == 0) {
            g.clear();
            m.clear();
            same("clear()", g.count(4), m.count(4));
        } else if (kind < 14) {
            int delay = random.nextInt(4) == 0 ? below(102) : random.nextInt(10);
            if (m.count(4) < nodes) {
                same("node(" + delay + ")", g.node(delay), m.node(delay));
            }
        } else if (kind < 32) {
            same("arc(" + a + ", " + b + ", " + t + ")", g.arc(a, b, t), m.arc(a, b, t));
        } else {
            int arc = below(20);
            same("tokens(" + arc + ", " + t + ")", g.tokens(arc, t), m.tokens(arc, t));
        }
    }

    private void rings() {
        switch (random.nextInt(5)) {
            case 0:
                same("dead()", g.dead(), m.dead());
                break;
            case 1:
                for (int what = -1; what < 3; what++) {
                    same("turn(" + what + ")", g.turn(what), m.turn(what));
                }
                break;
            case 2:
                same("helps()", g.helps(), m.helps());
                break;
            default:
                int node = below(10);
                int k = random.nextInt(8) == 0 ? 195 + random.nextInt(8) : below(12);
                same("time(" + node + ", " + k + ")", timeOf(node, k), m.time(node, k));
        }
    }

    private long timeOf(int node, int k) {
        try {
            return g.time(node, k);
        } catch (NoSuchElementException e) {
            return PlainModel.NO_TIME;
        }
    }
}
