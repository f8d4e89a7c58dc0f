import java.math.BigInteger;
import java.util.ArrayList;
import java.util.HashMap;
import java.util.LinkedHashMap;
import java.util.List;
import java.util.Map;

/**
 * What the document says, done in the slowest and plainest way and by other means than the class: signs
 * read one by one, rings told one by one, times by asking back. Every call finds its answer anew.
 */
final class PlainModel {
    static final long NO_TIME = Long.MIN_VALUE;

    private String tape = "";
    private String text = "";
    private int reset;
    private final boolean[] stuck = new boolean[12];
    private final boolean[][] pair = new boolean[12][12];
    private final List<Integer> delays = new ArrayList<>();
    private final List<int[]> arcs = new ArrayList<>();
    private Map<Integer, List<Integer>> keptWalk;

    // ---- the tape

    int feed(int... numbers) {
        StringBuilder more = new StringBuilder(tape);
        for (int number : numbers) {
            for (byte b : java.nio.ByteBuffer.allocate(4).putInt(number).array()) {
                if (b != 0) {
                    more.append((char) (b & 255));
                }
            }
        }
        if (more.length() > 300) {
            return -1;
        }
        tape = more.toString();
        return tape.length();
    }

    boolean end(int n) {
        if (n < 0 || n > tape.length()) {
            return false;
        }
        tape = tape.substring(0, n);
        return true;
    }

    /** Goes sign by sign; what may come next is told by the kind of the sign before. */
    int fault() {
        String had = "";
        char before = tape.isBlank() ? '$' : ';';
        int terms = 0;
        int literals = 0;
        for (int i = 0; i < tape.length(); i++) {
            char c = tape.charAt(i);
            boolean signal = c >= 'a' && c <= 'l';
            if (c == ' ') {
                continue;
            }
            switch (before) {
                case ';': // a signal that is to have an equation
                    if (!signal || had.indexOf(c) >= 0) {
                        return i;
                    }
                    had += c;
                    before = 'X';
                    break;
                case 'X': // behind that signal
                    if (c != '=') {
                        return i;
                    }
                    terms = 0;
                    before = '=';
                    break;
                case '=':
                case '+':
                    if (before == '=' && (c == '0' || c == '1')) {
                        before = '0';
                    } else if (signal && terms < 12) {
                        terms++;
                        literals = 1;
                        before = 'x';
                    } else {
                        return i;
                    }
                    break;
                case '0': // behind 0 or 1
                    if (c != ';') {
                        return i;
                    }
                    before = ';';
                    break;
                case 'x': // behind a signal of a term
                case '\'':
                    if (signal && literals < 8) {
                        literals++;
                        before = 'x';
                    } else if (c == '\'' && before == 'x' || c == '+' || c == ';') {
                        before = c;
                    } else {
                        return i;
                    }
                    break;
                default:
                    return i;
            }
        }
        return "$0x'".indexOf(before) >= 0 ? -1 : tape.length();
    }

    boolean circuit(int state) {
        if (state < 0 || state > 4095 || fault() != -1) {
            return false;
        }
        text = tape.replace(" ", "");
        tape = "";
        reset = state;
        java.util.Arrays.fill(stuck, false);
        for (boolean[] row : pair) {
            java.util.Arrays.fill(row, false);
        }
        keptWalk = null;
        return true;
    }

    // ---- the circuit

    private static boolean noSignal(int x) {
        return x < 0 || x > 11;
    }

    boolean arbiter(int x, int y, boolean is) {
        if (noSignal(x) || noSignal(y) || x == y || pair[x][y] == is) {
            return false;
        }
        pair[x][y] = is;
        pair[y][x] = is;
        return true;
    }

    boolean stuck(int x, boolean is) {
        if (noSignal(x) || stuck[x] == is) {
            return false;
        }
        stuck[x] = is;
        keptWalk = null;
        return true;
    }

    private static boolean valueOf(String terms, int state) {
        if (terms.equals("0") || terms.equals("1")) {
            return terms.equals("1");
        }
        for (String term : terms.split("\\+")) {
            boolean all = true;
            for (int i = 0; i < term.length(); i++) {
                if (term.charAt(i) != '\'') {
                    boolean other = i + 1 < term.length() && term.charAt(i + 1) == '\'';
                    all &= (state >> term.charAt(i) - 'a') % 2 == (other ? 0 : 1);
                }
            }
            if (all) {
                return true;
            }
        }
        return false;
    }

    private String[] equations() {
        return text.isEmpty() ? new String[0] : text.split(";");
    }

    private boolean isAsked(int state, int x) {
        for (String equation : equations()) {
            if (equation.charAt(0) - 'a' == x) {
                return !stuck[x] && valueOf(equation.substring(2), state) != ((state >> x & 1) == 1);
            }
        }
        return false;
    }

    int asked(int state) {
        if (state < 0 || state > 4095) {
            return -1;
        }
        int set = 0;
        for (int x = 0; x < 12; x++) {
            set |= isAsked(state, x) ? 1 << x : 0;
        }
        return set;
    }

    private static int other(int state, int x) {
        return state ^ (1 << x);
    }

    /** Each state with its way, in order. */
    private Map<Integer, List<Integer>> walk() {
        if (keptWalk != null) {
            return keptWalk;
        }
        Map<Integer, List<Integer>> ways = new LinkedHashMap<>();
        List<Integer> order = new ArrayList<>();
        ways.put(reset, new ArrayList<>());
        order.add(reset);
        for (int i = 0; i < order.size(); i++) {
            int state = order.get(i);
            for (int x = 0; x < 12; x++) {
                if (isAsked(state, x) && !ways.containsKey(other(state, x))) {
                    List<Integer> way = new ArrayList<>(ways.get(state));
                    way.add(x);
                    ways.put(other(state, x), way);
                    order.add(other(state, x));
                }
            }
        }
        keptWalk = ways;
        return ways;
    }

    private static int at(List<Integer> list, int i) {
        return i < 0 || i >= list.size() ? -1 : list.get(i);
    }

    int states() {
        return walk().size();
    }

    int state(int i) {
        return at(new ArrayList<>(walk().keySet()), i);
    }

    int place(int state) {
        return new ArrayList<>(walk().keySet()).indexOf(state);
    }

    private List<int[]> hazards() {
        List<int[]> all = new ArrayList<>();
        for (int state : walk().keySet()) {
            for (int x = 0; x < 12; x++) {
                for (int y = 0; y < 12; y++) {
                    if (x != y && !pair[x][y] && isAsked(state, x) && isAsked(state, y)
                            && !isAsked(other(state, y), x)) {
                        all.add(new int[] {state, x, y});
                    }
                }
            }
        }
        return all;
    }

    int hazard(int i, int what) {
        List<int[]> all = hazards();
        return i < 0 || i >= all.size() || what < 0 || what > 2 ? -1 : all.get(i)[what];
    }

    private List<Integer> stops() {
        List<Integer> all = new ArrayList<>();
        for (int state : walk().keySet()) {
            if (asked(state) == 0) {
                all.add(state);
            }
        }
        return all;
    }

    int stop(int i) {
        return at(stops(), i);
    }

    int way(int state) {
        return walk().containsKey(state) ? walk().get(state).size() : -1;
    }

    int change(int state, int i) {
        return walk().containsKey(state) ? at(walk().get(state), i) : -1;
    }

    /** Goes round over all states as long as one more is found to lead there. */
    int live(int x) {
        if (noSignal(x)) {
            return -1;
        }
        Map<Integer, Boolean> leads = new HashMap<>();
        boolean more = true;
        while (more) {
            more = false;
            for (int state : walk().keySet()) {
                boolean now = isAsked(state, x);
                for (int y = 0; y < 12; y++) {
                    now |= isAsked(state, y) && leads.containsKey(other(state, y));
                }
                if (now && leads.put(state, true) == null) {
                    more = true;
                }
            }
        }
        return leads.size() == walk().size() ? 1 : 0;
    }

    int both(int set) {
        if (set < 0 || set > 4095) {
            return -1;
        }
        for (int state : walk().keySet()) {
            if ((~state & set) == 0) {
                return state;
            }
        }
        return -1;
    }

    /** The signals of a run's changes, in order. */
    private List<Integer> lots(int n, long seed) {
        BigInteger round = BigInteger.ONE.shiftLeft(64);
        BigInteger x = BigInteger.valueOf(seed).mod(round);
        List<Integer> changes = new ArrayList<>();
        int state = reset;
        while (changes.size() < n) {
            List<Integer> choice = new ArrayList<>();
            for (int s = 0; s < 12; s++) {
                if (isAsked(state, s)) {
                    choice.add(s);
                }
            }
            if (choice.isEmpty()) {
                break;
            }
            x = x.multiply(new BigInteger("6364136223846793005"))
                    .add(new BigInteger("1442695040888963407")).mod(round);
            int lot = x.shiftRight(33).mod(BigInteger.valueOf(choice.size())).intValue();
            changes.add(choice.get(lot));
            state = other(state, choice.get(lot));
        }
        return changes;
    }

    int run(int n, long seed) {
        if (n < 0 || n > 2000) {
            return -1;
        }
        int state = reset;
        for (int x : lots(n, seed)) {
            state = other(state, x);
        }
        return state;
    }

    int changed(int n, long seed, int x) {
        if (n < 0 || n > 2000 || noSignal(x)) {
            return -1;
        }
        int times = 0;
        for (int one : lots(n, seed)) {
            times += one == x ? 1 : 0;
        }
        return times;
    }

    // ---- the rings

    int node(int delay) {
        if (delays.size() == 10 || delay < 0 || delay > 100) {
            return -1;
        }
        delays.add(delay);
        return delays.size() - 1;
    }

    int arc(int from, int to, int tokens) {
        int n = delays.size();
        if (from < 0 || from >= n || to < 0 || to >= n || tokens < 0 || tokens > 9 || arcs.size() == 20) {
            return -1;
        }
        arcs.add(new int[] {from, to, tokens});
        return arcs.size() - 1;
    }

    boolean tokens(int arc, int n) {
        if (arc < 0 || arc >= arcs.size() || n < 0 || n > 9) {
            return false;
        }
        arcs.get(arc)[2] = n;
        return true;
    }

    void clear() {
        delays.clear();
        arcs.clear();
    }

    /** The sums of delays and tokens of all rings, each from its lowest node on. */
    private List<long[]> rings() {
        List<long[]> all = new ArrayList<>();
        for (int first = 0; first < delays.size(); first++) {
            goRound(first, first, new boolean[10], 0, 0, all);
        }
        return all;
    }

    private void goRound(int first, int at, boolean[] on, long delay, long tokens, List<long[]> all) {
        on[at] = true;
        for (int[] arc : arcs) {
            if (arc[0] == at && arc[1] == first) {
                all.add(new long[] {delay + delays.get(at), tokens + arc[2]});
            } else if (arc[0] == at && arc[1] > first && !on[arc[1]]) {
                goRound(first, arc[1], on, delay + delays.get(at), tokens + arc[2], all);
            }
        }
        on[at] = false;
    }

    int dead() {
        for (long[] ring : rings()) {
            if (ring[1] == 0) {
                return 1;
            }
        }
        return 0;
    }

    /** Null without a turn. */
    private long[] greatest() {
        long[] best = null;
        for (long[] ring : rings()) {
            if (ring[1] == 0) {
                return null;
            }
            if (best == null || ring[0] * best[1] > best[0] * ring[1]) {
                best = ring;
            }
        }
        return best;
    }

    long turn(int what) {
        long[] best = greatest();
        if (best == null || what != 0 && what != 1) {
            return -1;
        }
        return best[what] / BigInteger.valueOf(best[0]).gcd(BigInteger.valueOf(best[1])).longValue();
    }

    long time(int node, int k) {
        if (node < 0 || node >= delays.size() || k < 1 || k > 200) {
            return NO_TIME;
        }
        return timeOf(node, k, new HashMap<>());
    }

    /** A time that is asked for while it is being found waits for itself: it is none. */
    private long timeOf(int node, int k, Map<Integer, Long> found) {
        int key = k * 10 + node;
        if (found.containsKey(key)) {
            return found.get(key);
        }
        found.put(key, NO_TIME);
        long greatest = 0;
        for (int[] arc : arcs) {
            if (arc[1] == node && k - arc[2] >= 1) {
                long time = timeOf(arc[0], k - arc[2], found);
                if (time == NO_TIME) {
                    return NO_TIME;
                }
                greatest = Math.max(greatest, time);
            }
        }
        found.put(key, greatest + delays.get(node));
        return found.get(key);
    }

    int helps() {
        long[] least = greatest();
        int best = -1;
        for (int i = 0; i < arcs.size() && least != null; i++) {
            arcs.get(i)[2]++;
            long[] now = greatest();
            arcs.get(i)[2]--;
            if (now[0] * least[1] < least[0] * now[1]) {
                least = now;
                best = i;
            }
        }
        return best;
    }

    int count(int what) {
        int terms = 0;
        for (String equation : equations()) {
            terms += equation.split("\\+").length;
        }
        int[] all = {equations().length, terms, what == 2 ? hazards().size() : 0, what == 3 ? stops().size() : 0,
            delays.size(), arcs.size(), tape.length(), reset};
        return what < 0 || what > 7 ? -1 : all[what];
    }
}
