import java.nio.charset.StandardCharsets;

/** Collects the answers that are not as due, and ends a test with exit code 1 if there are some. */
final class Due {
    private int wrong;
    private int looked;
    private int sentences;
    /** The sentence of the document that is being looked at, told with each wrong answer. */
    private String sentence = "";

    void sentence(String words) {
        sentences++;
        sentence = "[" + words + "] ";
    }

    void is(String what, long got, long want) {
        looked++;
        if (got != want) {
            wrong++;
            System.out.println(sentence + what + " answered " + got + ", due is " + want);
        }
    }

    void is(String what, boolean got, boolean want) {
        is(what, got ? 1 : 0, want ? 1 : 0);
    }

    /** Whether time throws NoSuchElementException, and nothing else. */
    void noTime(GateWalk g, int node, int k) {
        String what = "time(" + node + ", " + k + ")";
        try {
            is(what + " (none is due)", g.time(node, k), Long.MIN_VALUE);
        } catch (java.util.NoSuchElementException e) {
            is(what + " throws NoSuchElementException alone",
                    e.getClass() == java.util.NoSuchElementException.class, true);
        }
    }

    void finish() {
        String of = sentences == 0 ? "" : sentences + " sentences, ";
        System.out.println(of + looked + " answers, " + wrong + " not as due");
        if (wrong != 0 || looked == 0) {
            System.exit(1);
        }
    }

    /** Feeds a text (signs 1 to 255) behind what the tape has; the answer of the last feed. */
    static int feed(GateWalk g, String text) {
        byte[] bytes = text.getBytes(StandardCharsets.ISO_8859_1);
        int last = GateWalk.NONE;
        for (int i = 0; i < bytes.length; i += 20) {
            last = g.feed(pack(bytes, i), pack(bytes, i + 4), pack(bytes, i + 8),
                    pack(bytes, i + 12), pack(bytes, i + 16));
        }
        return last;
    }

    static int pack(byte[] bytes, int start) {
        int number = 0;
        for (int i = start; i < start + 4; i++) {
            number = number << 8 | (i < bytes.length ? bytes[i] & 255 : 0);
        }
        return number;
    }

    /** A new object with this circuit. */
    static GateWalk of(String text, int reset) {
        GateWalk g = new GateWalk();
        feed(g, text);
        if (!g.circuit(reset)) {
            throw new IllegalStateException("no circuit: " + text);
        }
        return g;
    }

    /** Numbers that are not in low .. high: the next ones, the farthest, and one that is inside if cut to 16 bits. */
    static int[] outside(int low, int high) {
        return new int[] {low - 1, high + 1, low - 65536, high + 65536, Integer.MIN_VALUE, Integer.MIN_VALUE + 1,
            Integer.MAX_VALUE};
    }

    static int faultOf(String text) {
        GateWalk g = new GateWalk();
        feed(g, text);
        return g.fault();
    }

    static String times(int n, String part, String between) {
        StringBuilder all = new StringBuilder();
        for (int i = 0; i < n; i++) {
            all.append(i == 0 ? "" : between).append(part);
        }
        return all.toString();
    }
}
