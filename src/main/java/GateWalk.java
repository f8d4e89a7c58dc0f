import java.util.Arrays;
import java.util.NoSuchElementException;

/**
 * A bench for circuits without a clock, and for rings of tokens.
 *
 * A state is an int with a bit for each signal, bit 0 being signal a. All rows are made once, with
 * the object, and used again by every call: nothing is made by the calls themselves.
 */
public final class GateWalk {
    public static final int NONE = -1;

    private static final int SIGNALS = 12;
    private static final int STATES = 1 << SIGNALS;
    private static final int TAPE_LIMIT = 300;
    private static final int LITERAL_LIMIT = 8;
    private static final int TERM_LIMIT = 12;
    private static final int RUN_LIMIT = 2000;
    private static final int NODE_LIMIT = 10;
    private static final int ARC_LIMIT = 20;
    private static final int DELAY_LIMIT = 100;
    private static final int TOKEN_LIMIT = 9;
    private static final int TIME_LIMIT = 200;
    /** More than there are fractions of a delay sum and a token sum, each of which is tried once at most. */
    private static final int RATIO_LIMIT = 1000000;
    /** More steps than the common divisor of two ints can take. */
    private static final int DIVISOR_STEPS = 64;

    private final Tape tape = new Tape();
    private final Reader reader = new Reader(tape);
    private final Circuit gates = new Circuit();
    private final Walk walk = new Walk(gates);
    private final Hazards hazards = new Hazards(gates, walk);
    private final Liveness liveness = new Liveness(gates, walk);
    private final int[] lotChanges = new int[SIGNALS];
    private final Net net = new Net();
    private final Turns turns = new Turns(net);
    private final Timetable timetable = new Timetable(net);
    /** Where a text is read to, so that one with a fault leaves the circuit as it is. */
    private Equations draft = new Equations();

    public GateWalk() {
    }

    public int feed(int a, int b, int c, int d, int e) {
        int more = Tape.bytesIn(a) + Tape.bytesIn(b) + Tape.bytesIn(c) + Tape.bytesIn(d) + Tape.bytesIn(e);
        if (tape.size() + more > TAPE_LIMIT) {
            return NONE;
        }
        tape.append(a);
        tape.append(b);
        tape.append(c);
        tape.append(d);
        tape.append(e);
        return tape.size();
    }

    public boolean end(int n) {
        if (n < 0 || n > tape.size()) {
            return false;
        }
        tape.cut(n);
        return true;
    }

    public int fault() {
        return reader.read(draft);
    }

    public boolean circuit(int state) {
        if (!isState(state) || reader.read(draft) != NONE) {
            return false;
        }
        draft = gates.begin(draft, state);
        tape.cut(0);
        forgetWalk();
        return true;
    }

    public boolean arbiter(int x, int y, boolean is) {
        if (!isSignal(x) || !isSignal(y) || x == y || gates.isPair(x, y) == is) {
            return false;
        }
        gates.turnPair(x, y);
        hazards.forget();
        return true;
    }

    public boolean stuck(int x, boolean is) {
        if (!isSignal(x) || gates.isStuck(x) == is) {
            return false;
        }
        gates.turnStuck(x);
        forgetWalk();
        return true;
    }

    public int asked(int state) {
        return isState(state) ? gates.askedIn(state) : NONE;
    }

    public int states() {
        walk.renew();
        return walk.size();
    }

    public int state(int i) {
        walk.renew();
        return walk.stateAt(i);
    }

    public int place(int state) {
        walk.renew();
        return walk.placeOf(state);
    }

    public int hazard(int i, int what) {
        if (what < 0 || what > 2) {
            return NONE;
        }
        walk.renew();
        hazards.renew();
        return hazards.partOf(i, what);
    }

    public int stop(int i) {
        walk.renew();
        return walk.stopAt(i);
    }

    public int way(int state) {
        walk.renew();
        return walk.wayLength(state);
    }

    public int change(int state, int i) {
        walk.renew();
        return walk.wayStep(state, i);
    }

    public int live(int x) {
        if (!isSignal(x)) {
            return NONE;
        }
        walk.renew();
        return liveness.isLive(x) ? 1 : 0;
    }

    public int both(int set) {
        if (!isState(set)) {
            return NONE;
        }
        walk.renew();
        return walk.firstWithAll(set);
    }

    public int run(int n, long seed) {
        return isRunLength(n) ? gates.runByLots(n, seed, lotChanges) : NONE;
    }

    public int changed(int n, long seed, int x) {
        if (!isRunLength(n) || !isSignal(x)) {
            return NONE;
        }
        gates.runByLots(n, seed, lotChanges);
        return lotChanges[x];
    }

    public int node(int delay) {
        int number = net.addNode(delay);
        forgetRings();
        return number;
    }

    public int arc(int from, int to, int tokens) {
        int number = net.addArc(from, to, tokens);
        forgetRings();
        return number;
    }

    public boolean tokens(int arc, int n) {
        boolean taken = net.putTokens(arc, n);
        forgetRings();
        return taken;
    }

    public void clear() {
        net.removeAll();
        forgetRings();
    }

    public int dead() {
        return net.hasDeadRing() ? 1 : 0;
    }

    public long turn(int what) {
        if (what < 0 || what > 1) {
            return NONE;
        }
        turns.renew();
        return what == 0 ? turns.numerator() : turns.denominator();
    }

    public int time(int node, int k) throws NoSuchElementException {
        if (!net.isNode(node) || k < 1 || k > TIME_LIMIT) {
            throw new NoSuchElementException("no such node or time");
        }
        timetable.fillTo(k);
        int time = timetable.doneAt(node, k);
        if (time == NONE) {
            throw new NoSuchElementException("the node waits for a dead ring");
        }
        return time;
    }

    public int helps() {
        turns.renew();
        return turns.helper();
    }

    public int count(int what) {
        switch (what) {
            case 0:
                return gates.equations();
            case 1:
                return gates.terms();
            case 2:
                walk.renew();
                hazards.renew();
                return hazards.size();
            case 3:
                walk.renew();
                return walk.stops();
            case 4:
                return net.nodes();
            case 5:
                return net.arcs();
            case 6:
                return tape.size();
            case 7:
                return gates.resetState();
            default:
                return NONE;
        }
    }

    private void forgetWalk() {
        walk.forget();
        hazards.forget();
        liveness.forget();
    }

    private void forgetRings() {
        turns.forget();
        timetable.forget();
    }

    private static boolean isSignal(int x) {
        return x >= 0 && x < SIGNALS;
    }

    private static boolean isState(int state) {
        return state >= 0 && state < STATES;
    }

    private static boolean isRunLength(int n) {
        return n >= 0 && n <= RUN_LIMIT;
    }

    private static boolean isIn(int set, int x) {
        return (set >> x & 1) != 0;
    }

    /** The bytes that have been fed and not yet become a text. */
    private static final class Tape {
        private final int[] bytes = new int[TAPE_LIMIT];
        private int size;

        static int bytesIn(int number) {
            int found = 0;
            for (int shift = 24; shift >= 0; shift -= 8) {
                if ((number >>> shift & 255) != 0) {
                    found++;
                }
            }
            return found;
        }

        void append(int number) {
            for (int shift = 24; shift >= 0; shift -= 8) {
                int one = number >>> shift & 255;
                if (one != 0 && size < TAPE_LIMIT) {
                    bytes[size] = one;
                    size++;
                }
            }
        }

        void cut(int n) {
            size = n;
        }

        int size() {
            return size;
        }

        /** NONE behind the end, which is no byte and so fits no rule of the text. */
        int byteAt(int i) {
            return i >= 0 && i < size ? bytes[i] : NONE;
        }

        int pastBlanks(int start) {
            int i = start;
            while (i >= 0 && i < size && bytes[i] == ' ') {
                i++;
            }
            return i;
        }
    }

    /**
     * Reads the tape as a text. Each part that is read leaves the reader on the first byte behind it
     * that is no blank; a part that answers false leaves it on the fault.
     */
    private static final class Reader {
        private final Tape tape;
        private int at;

        Reader(Tape tape) {
            this.tape = tape;
        }

        /** The fault, or NONE. */
        int read(Equations into) {
            into.removeAll();
            at = tape.pastBlanks(0);
            if (isAtEnd()) {
                return NONE;
            }
            for (int i = 0; i < SIGNALS; i++) {
                if (!readEquation(into)) {
                    return at;
                }
                if (isAtEnd()) {
                    return NONE;
                }
                if (!isOn(';')) {
                    return at;
                }
                step();
            }
            // All signals have equations: whatever comes in front of a thirteenth = is the fault.
            return at;
        }

        private boolean readEquation(Equations into) {
            int x = signalHere();
            if (x == NONE || into.has(x)) {
                return false;
            }
            step();
            if (!isOn('=')) {
                return false;
            }
            step();
            into.addEquation(x);
            if (isOn('0') || isOn('1')) {
                into.addConstant(x, isOn('1'));
                step();
                return true;
            }
            return readTerms(x, into);
        }

        private boolean readTerms(int x, Equations into) {
            for (int i = 0; i < TERM_LIMIT; i++) {
                if (!readTerm(x, into)) {
                    return false;
                }
                if (!isOn('+')) {
                    return true;
                }
                step();
            }
            // The reader stands behind the twelfth +: the term too many is the fault, not its +.
            return false;
        }

        private boolean readTerm(int x, Equations into) {
            int ones = 0;
            int zeros = 0;
            int signal = signalHere();
            if (signal == NONE) {
                return false;
            }
            for (int i = 0; i < LITERAL_LIMIT && signal != NONE; i++) {
                step();
                if (isOn('\'')) {
                    zeros |= 1 << signal;
                    step();
                } else {
                    ones |= 1 << signal;
                }
                signal = signalHere();
            }
            into.addTerm(x, ones, zeros);
            return signal == NONE;
        }

        private int signalHere() {
            int one = tape.byteAt(at);
            return one >= 'a' && one < 'a' + SIGNALS ? one - 'a' : NONE;
        }

        private boolean isOn(char sign) {
            return tape.byteAt(at) == sign;
        }

        private boolean isAtEnd() {
            return at >= tape.size();
        }

        private void step() {
            at = tape.pastBlanks(at + 1);
        }
    }

    /** The equations of a text, as one list of the terms of all. */
    private static final class Equations {
        private final int[] owner = new int[SIGNALS * TERM_LIMIT];
        private final int[] ones = new int[SIGNALS * TERM_LIMIT];
        private final int[] zeros = new int[SIGNALS * TERM_LIMIT];
        private int terms;
        private int signals;

        void removeAll() {
            terms = 0;
            signals = 0;
        }

        boolean has(int x) {
            return isIn(signals, x);
        }

        void addEquation(int x) {
            signals |= 1 << x;
        }

        /** A 1 asks nothing of any signal; a 0 asks a signal to be 1 and 0 at once. */
        void addConstant(int x, boolean one) {
            int asks = one ? 0 : 1;
            addTerm(x, asks, asks);
        }

        void addTerm(int x, int needOnes, int needZeros) {
            if (terms < owner.length) {
                owner[terms] = x;
                ones[terms] = needOnes;
                zeros[terms] = needZeros;
                terms++;
            }
        }

        int terms() {
            return terms;
        }

        int signals() {
            return signals;
        }

        /** The signals whose equations have the value 1. */
        int valuesIn(int state) {
            int values = 0;
            for (int i = 0; i < terms && i < owner.length; i++) {
                if ((state & ones[i]) == ones[i] && (state & zeros[i]) == 0) {
                    values |= 1 << owner[i];
                }
            }
            return values;
        }
    }

    /** A text with its reset, what is stuck and which pairs are arbiters. */
    private static final class Circuit {
        private static final long LOT_FACTOR = 6364136223846793005L;
        private static final long LOT_ADDEND = 1442695040888963407L;
        private static final int LOT_SHIFT = 33;

        /** The equations' values of each state, NONE until they are first asked for. */
        private final int[] values = new int[STATES];
        private final int[] partners = new int[SIGNALS];
        private Equations text = new Equations();
        private int reset;
        private int stuckSet;

        Circuit() {
            Arrays.fill(values, NONE);
        }

        /** Takes a new text, and gives back the old one to be written over. */
        Equations begin(Equations newText, int newReset) {
            Equations old = text;
            text = newText;
            reset = newReset;
            stuckSet = 0;
            Arrays.fill(values, NONE);
            Arrays.fill(partners, 0);
            return old;
        }

        int equations() {
            return Integer.bitCount(text.signals());
        }

        int terms() {
            return text.terms();
        }

        int resetState() {
            return reset;
        }

        boolean isPair(int x, int y) {
            return isIn(partners[x], y);
        }

        void turnPair(int x, int y) {
            partners[x] ^= 1 << y;
            partners[y] ^= 1 << x;
        }

        boolean isStuck(int x) {
            return isIn(stuckSet, x);
        }

        void turnStuck(int x) {
            stuckSet ^= 1 << x;
        }

        int askedIn(int state) {
            if (values[state] == NONE) {
                values[state] = text.valuesIn(state);
            }
            return (values[state] ^ state) & text.signals() & ~stuckSet;
        }

        /** The signals whose asked change the change of y would take back, arbiters left out. */
        int takenBackBy(int y, int state) {
            int others = askedIn(state) & ~(1 << y) & ~partners[y];
            return others & ~askedIn(state ^ 1 << y);
        }

        /** The last state of a run; how often each signal changed is left in changes. */
        int runByLots(int n, long seed, int[] changes) {
            Arrays.fill(changes, 0);
            int state = reset;
            long lot = seed;
            for (int i = 0; i < n; i++) {
                int asked = askedIn(state);
                int choices = Integer.bitCount(asked);
                if (choices == 0) {
                    break;
                }
                lot = lot * LOT_FACTOR + LOT_ADDEND;
                int x = signalInPlace(asked, (int) ((lot >>> LOT_SHIFT) % choices));
                state ^= 1 << x;
                changes[x]++;
            }
            return state;
        }

        private static int signalInPlace(int set, int place) {
            int before = 0;
            for (int x = 0; x < SIGNALS; x++) {
                if (isIn(set, x)) {
                    if (before == place) {
                        return x;
                    }
                    before++;
                }
            }
            return 0;
        }
    }

    /** The states that are reached, in order. What it tells holds behind renew. */
    private static final class Walk {
        private final Circuit gates;
        private final int[] order = new int[STATES];
        private final int[] places = new int[STATES];
        /** The signal by whose change a state first came: the state before differs in it alone. */
        private final int[] cameBy = new int[STATES];
        private final int[] stopStates = new int[STATES];
        private int size;
        private int stops;
        private boolean made;

        Walk(Circuit gates) {
            this.gates = gates;
        }

        void forget() {
            made = false;
        }

        void renew() {
            if (made) {
                return;
            }
            Arrays.fill(places, NONE);
            size = 0;
            stops = 0;
            enter(gates.resetState(), NONE);
            for (int i = 0; i < size && i < STATES; i++) {
                goOnFrom(order[i]);
            }
            made = true;
        }

        private void goOnFrom(int state) {
            int asked = gates.askedIn(state);
            if (asked == 0 && stops < STATES) {
                stopStates[stops] = state;
                stops++;
            }
            for (int x = 0; x < SIGNALS; x++) {
                if (isIn(asked, x)) {
                    enter(state ^ 1 << x, x);
                }
            }
        }

        private void enter(int state, int by) {
            if (places[state] == NONE && size < STATES) {
                places[state] = size;
                cameBy[state] = by;
                order[size] = state;
                size++;
            }
        }

        int size() {
            return size;
        }

        int stops() {
            return stops;
        }

        int stateAt(int i) {
            return i >= 0 && i < size ? order[i] : NONE;
        }

        int stopAt(int i) {
            return i >= 0 && i < stops ? stopStates[i] : NONE;
        }

        int placeOf(int state) {
            return isState(state) ? places[state] : NONE;
        }

        int wayLength(int state) {
            if (placeOf(state) == NONE) {
                return NONE;
            }
            int length = 0;
            int at = state;
            for (int i = 0; i < STATES && cameBy[at] != NONE; i++) {
                at ^= 1 << cameBy[at];
                length++;
            }
            return length;
        }

        int wayStep(int state, int step) {
            int length = wayLength(state);
            if (step < 0 || step >= length) {
                return NONE;
            }
            int at = state;
            for (int i = length - 1; i > step; i--) {
                at ^= 1 << cameBy[at];
            }
            return cameBy[at];
        }

        int firstWithAll(int set) {
            for (int i = 0; i < size; i++) {
                if ((order[i] & set) == set) {
                    return order[i];
                }
            }
            return NONE;
        }
    }

    /** The hazards of the walk. What it tells holds behind renew, of the walk first. */
    private static final class Hazards {
        private final Circuit gates;
        private final Walk walk;
        /** How many hazards there are up to and with the state of each place. */
        private final int[] upTo = new int[STATES];
        private int size;
        private boolean made;

        Hazards(Circuit gates, Walk walk) {
            this.gates = gates;
            this.walk = walk;
        }

        void forget() {
            made = false;
        }

        void renew() {
            if (made) {
                return;
            }
            size = 0;
            for (int i = 0; i < walk.size() && i < STATES; i++) {
                size += hazardsIn(walk.stateAt(i));
                upTo[i] = size;
            }
            made = true;
        }

        private int hazardsIn(int state) {
            int asked = gates.askedIn(state);
            int found = 0;
            for (int y = 0; y < SIGNALS; y++) {
                if (isIn(asked, y)) {
                    found += Integer.bitCount(gates.takenBackBy(y, state));
                }
            }
            return found;
        }

        int size() {
            return size;
        }

        int partOf(int i, int what) {
            if (i < 0 || i >= size) {
                return NONE;
            }
            int place = placeWith(i);
            int state = walk.stateAt(place);
            if (what == 0) {
                return state;
            }
            return signalOf(state, place == 0 ? i : i - upTo[place - 1], what);
        }

        /** The first place up to which there are more hazards than i. */
        private int placeWith(int i) {
            int low = 0;
            int high = walk.size() - 1;
            for (int step = 0; step < STATES && low < high; step++) {
                int middle = (low + high) / 2;
                if (upTo[middle] > i) {
                    high = middle;
                } else {
                    low = middle + 1;
                }
            }
            return low;
        }

        private int signalOf(int state, int rank, int what) {
            int asked = gates.askedIn(state);
            int before = 0;
            for (int x = 0; x < SIGNALS; x++) {
                for (int y = 0; y < SIGNALS; y++) {
                    if (isIn(asked, y) && isIn(gates.takenBackBy(y, state), x)) {
                        if (before == rank) {
                            return what == 1 ? x : y;
                        }
                        before++;
                    }
                }
            }
            return NONE;
        }
    }

    /** Which signals are live; told of a walk that has been renewed. */
    private static final class Liveness {
        private final Circuit gates;
        private final Walk walk;
        private final boolean[] found = new boolean[STATES];
        private final int[] queue = new int[STATES];
        private int queued;
        private int knownSet;
        private int liveSet;

        Liveness(Circuit gates, Walk walk) {
            this.gates = gates;
            this.walk = walk;
        }

        void forget() {
            knownSet = 0;
            liveSet = 0;
        }

        boolean isLive(int x) {
            if (!isIn(knownSet, x)) {
                knownSet |= 1 << x;
                if (leadsThereFromAll(x)) {
                    liveSet |= 1 << x;
                }
            }
            return isIn(liveSet, x);
        }

        /** Goes back from the states in which x is asked, and looks whether that finds all. */
        private boolean leadsThereFromAll(int x) {
            queued = 0;
            for (int i = 0; i < walk.size(); i++) {
                int state = walk.stateAt(i);
                if (isIn(gates.askedIn(state), x)) {
                    find(state);
                }
            }
            for (int i = 0; i < queued && i < STATES; i++) {
                goBackFrom(queue[i]);
            }
            boolean all = queued == walk.size();
            for (int i = 0; i < queued; i++) {
                found[queue[i]] = false;
            }
            return all;
        }

        private void goBackFrom(int state) {
            for (int x = 0; x < SIGNALS; x++) {
                int before = state ^ 1 << x;
                if (walk.placeOf(before) != NONE && isIn(gates.askedIn(before), x)) {
                    find(before);
                }
            }
        }

        private void find(int state) {
            if (!found[state] && queued < STATES) {
                found[state] = true;
                queue[queued] = state;
                queued++;
            }
        }
    }

    /** Nodes with delays, and arcs with tokens between them. */
    private static final class Net {
        private final int[] delays = new int[NODE_LIMIT];
        private final int[] sources = new int[ARC_LIMIT];
        private final int[] targets = new int[ARC_LIMIT];
        private final int[] held = new int[ARC_LIMIT];
        private int nodes;
        private int arcs;

        void removeAll() {
            nodes = 0;
            arcs = 0;
        }

        int addNode(int delay) {
            if (nodes >= NODE_LIMIT || delay < 0 || delay > DELAY_LIMIT) {
                return NONE;
            }
            delays[nodes] = delay;
            nodes++;
            return nodes - 1;
        }

        int addArc(int source, int target, int tokens) {
            if (arcs >= ARC_LIMIT || !isNode(source) || !isNode(target) || !isTokens(tokens)) {
                return NONE;
            }
            sources[arcs] = source;
            targets[arcs] = target;
            held[arcs] = tokens;
            arcs++;
            return arcs - 1;
        }

        boolean putTokens(int arc, int n) {
            if (arc < 0 || arc >= arcs || !isTokens(n)) {
                return false;
            }
            held[arc] = n;
            return true;
        }

        private static boolean isTokens(int n) {
            return n >= 0 && n <= TOKEN_LIMIT;
        }

        boolean isNode(int node) {
            return node >= 0 && node < nodes;
        }

        int nodes() {
            return nodes;
        }

        int arcs() {
            return arcs;
        }

        int delayOf(int node) {
            return delays[node];
        }

        int sourceOf(int arc) {
            return sources[arc];
        }

        int targetOf(int arc) {
            return targets[arc];
        }

        int tokensOf(int arc) {
            return held[arc];
        }

        int allNodes() {
            return (1 << nodes) - 1;
        }

        boolean hasDeadRing() {
            return nodesBehindRings(0) != 0;
        }

        boolean hasRing() {
            return nodesBehindRings(TOKEN_LIMIT) != 0;
        }

        /** The nodes on or behind rings of arcs that have at most so many tokens each. */
        private int nodesBehindRings(int most) {
            int free = 0;
            for (int round = 0; round < nodes; round++) {
                free = freedBy(free, most);
            }
            return allNodes() & ~free;
        }

        /** The nodes all of whose arcs in, of those with at most so many tokens, come from free nodes. */
        int freedBy(int free, int most) {
            int waiting = 0;
            for (int arc = 0; arc < arcs; arc++) {
                if (held[arc] <= most && !isIn(free, sources[arc])) {
                    waiting |= 1 << targets[arc];
                }
            }
            return allNodes() & ~waiting;
        }
    }

    /** A fraction in lowest terms. */
    private static final class Ratio {
        private int top;
        private int bottom = 1;

        void putBelowAll() {
            top = -1;
            bottom = 1;
        }

        void put(int newTop, int newBottom) {
            int divisor = commonDivisor(newTop, newBottom);
            if (divisor != 0) {
                top = newTop / divisor;
                bottom = newBottom / divisor;
            }
        }

        void putAs(Ratio other) {
            top = other.top;
            bottom = other.bottom;
        }

        int top() {
            return top;
        }

        int bottom() {
            return bottom;
        }

        boolean isLess(Ratio other) {
            return top * other.bottom < other.top * bottom;
        }

        private static int commonDivisor(int a, int b) {
            int high = a;
            int low = b;
            for (int i = 0; i < DIVISOR_STEPS && low != 0; i++) {
                int rest = high % low;
                high = low;
                low = rest;
            }
            return high;
        }
    }

    /**
     * The turn of a net. It is found by going from a ring to any ring with a greater ratio until
     * there is none: a ring is greater than top / bottom if the sum, over its arcs, of bottom * delay
     * - top * tokens is above 0, and longest paths tell whether there is such a ring.
     */
    private static final class Turns {
        private final Net net;
        private final Ratio turn = new Ratio();
        private final Ratio trial = new Ratio();
        private final Ratio least = new Ratio();
        private final int[] lengths = new int[NODE_LIMIT];
        private final int[] cameOver = new int[NODE_LIMIT];
        private boolean made;
        private boolean there;
        private boolean helperMade;
        private int helper;
        /** The arc that is taken as having a token more, or NONE. */
        private int richer = NONE;

        Turns(Net net) {
            this.net = net;
        }

        void forget() {
            made = false;
            helperMade = false;
        }

        void renew() {
            if (made) {
                return;
            }
            there = net.hasRing() && !net.hasDeadRing();
            if (there) {
                richer = NONE;
                findGreatest(turn);
            }
            made = true;
        }

        int numerator() {
            return there ? turn.top() : NONE;
        }

        int denominator() {
            return there ? turn.bottom() : NONE;
        }

        int helper() {
            if (!there) {
                return NONE;
            }
            if (helperMade) {
                return helper;
            }
            helper = NONE;
            least.putAs(turn);
            for (int arc = 0; arc < net.arcs(); arc++) {
                richer = arc;
                findGreatest(trial);
                if (trial.isLess(least)) {
                    least.putAs(trial);
                    helper = arc;
                }
            }
            richer = NONE;
            helperMade = true;
            return helper;
        }

        private void findGreatest(Ratio ratio) {
            ratio.putBelowAll();
            for (int i = 0; i < RATIO_LIMIT; i++) {
                int node = nodeBehindGreaterRing(ratio);
                if (node == NONE) {
                    return;
                }
                putRing(nodeOnRing(node), ratio);
            }
        }

        /** A node whose longest path still grows behind as many rounds as there are nodes. */
        private int nodeBehindGreaterRing(Ratio ratio) {
            Arrays.fill(lengths, 0);
            Arrays.fill(cameOver, NONE);
            int grown = NONE;
            for (int round = 0; round < net.nodes(); round++) {
                grown = growPaths(ratio);
                if (grown == NONE) {
                    return NONE;
                }
            }
            return grown;
        }

        private int growPaths(Ratio ratio) {
            int grown = NONE;
            for (int arc = 0; arc < net.arcs(); arc++) {
                int target = net.targetOf(arc);
                int weight = ratio.bottom() * net.delayOf(target) - ratio.top() * tokensOn(arc);
                int length = lengths[net.sourceOf(arc)] + weight;
                if (length > lengths[target]) {
                    lengths[target] = length;
                    cameOver[target] = arc;
                    grown = target;
                }
            }
            return grown;
        }

        private int tokensOn(int arc) {
            return net.tokensOf(arc) + (arc == richer ? 1 : 0);
        }

        /** As many steps back as there are nodes cannot end before the ring, and so end on it. */
        private int nodeOnRing(int node) {
            int at = node;
            for (int i = 0; i < net.nodes() && cameOver[at] != NONE; i++) {
                at = net.sourceOf(cameOver[at]);
            }
            return at;
        }

        private void putRing(int first, Ratio ratio) {
            int delays = 0;
            int tokens = 0;
            int at = first;
            for (int i = 0; i < net.nodes() && cameOver[at] != NONE; i++) {
                delays += net.delayOf(at);
                tokens += tokensOn(cameOver[at]);
                at = net.sourceOf(cameOver[at]);
                if (at == first) {
                    break;
                }
            }
            ratio.put(delays, tokens);
        }
    }

    /** The times of nodes, filled as far as they have been asked for. */
    private static final class Timetable {
        private final Net net;
        /** When a node begins the k-th time (its delay is still to come), or NONE. */
        private final int[][] begins = new int[NODE_LIMIT][TIME_LIMIT + 1];
        /** Arcs to nodes that no dead ring holds up at once, each behind those that it waits for. */
        private final int[] arcOrder = new int[ARC_LIMIT];
        private int ordered;
        private int freeNodes;
        private int filled;

        Timetable(Net net) {
            this.net = net;
        }

        void forget() {
            filled = 0;
        }

        void fillTo(int k) {
            if (filled == 0) {
                orderArcs();
            }
            for (int i = filled + 1; i <= k && i <= TIME_LIMIT; i++) {
                fill(i);
                filled = i;
            }
        }

        int doneAt(int node, int k) {
            if (k < 1) {
                return 0;
            }
            int begin = begins[node][k];
            return begin == NONE ? NONE : begin + net.delayOf(node);
        }

        private void orderArcs() {
            ordered = 0;
            freeNodes = 0;
            for (int round = 0; round < net.nodes(); round++) {
                int free = net.freedBy(freeNodes, 0);
                appendArcsTo(free & ~freeNodes);
                freeNodes = free;
            }
        }

        private void appendArcsTo(int nodes) {
            for (int arc = 0; arc < net.arcs(); arc++) {
                if (isIn(nodes, net.targetOf(arc)) && ordered < ARC_LIMIT) {
                    arcOrder[ordered] = arc;
                    ordered++;
                }
            }
        }

        private void fill(int k) {
            for (int node = 0; node < net.nodes(); node++) {
                begins[node][k] = isIn(freeNodes, node) ? 0 : NONE;
            }
            for (int i = 0; i < ordered; i++) {
                int arc = arcOrder[i];
                int target = net.targetOf(arc);
                int done = doneAt(net.sourceOf(arc), k - net.tokensOf(arc));
                begins[target][k] = later(begins[target][k], done);
            }
        }

        private static int later(int a, int b) {
            return a == NONE || b == NONE ? NONE : Math.max(a, b);
        }
    }
}
