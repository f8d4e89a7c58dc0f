/** The boundary cases of a text, of the tape and of faults: part 1 of the terms, promises 2, 3 and 4. */
final class TextEdgesTest {
    private static final String TWELVE_TERMS = "a=" + Due.times(12, "b", "+");
    private static final String TWELVE_EQUATIONS = "a=1;b=1;c=1;d=1;e=1;f=1;g=1;h=1;i=1;j=1;k=1;l=1";
    private static final int BLANKS = 0x20202020;
    private static final Due DUE = new Due();

    public static void main(String[] args) {
        signals();
        noEquations();
        semicolons();
        plusSigns();
        literalsOfATerm();
        ticks();
        constants();
        blanks();
        noOtherBlanks();
        oneEquation();
        firstByte();
        tooEarly();
        ninthLiteral();
        thirteenthTerm();
        secondEquation();
        highestFirst();
        zerosLeftOut();
        moreThanThreeHundred();
        firstBytesAlone();
        wrongEnd();
        noFault();
        faultKeepsTheTape();
        DUE.finish();
    }

    private static void at(String text, int want) {
        DUE.is("fault of \"" + text + "\"", Due.faultOf(text), want);
    }

    // ---- part 1 of the terms

    private static void signals() {
        DUE.sentence("SIGNALS a .. l");
        for (int sign = 1; sign <= 255; sign++) {
            boolean isSignal = sign >= 'a' && sign <= 'l';
            at((char) sign + "=a", isSignal ? -1 : sign == ' ' ? 1 : 0);
            boolean isConstant = sign == '0' || sign == '1';
            at("a=" + (char) sign, isSignal || isConstant ? -1 : sign == ' ' ? 3 : 2);
            at("a=b+" + (char) sign, isSignal ? -1 : sign == ' ' ? 5 : 4);
        }
    }

    private static void noEquations() {
        DUE.sentence("EQUATIONS with ; between (none: no bytes but blanks)");
        DUE.is("fault() of a new tape", new GateWalk().fault(), -1);
        at(" ", -1);
        at(Due.times(299, " ", ""), -1);
        at(Due.times(300, " ", ""), -1);
        at(Due.times(299, " ", "") + ";", 299);
        GateWalk g = Due.of("a=a'", 0);
        DUE.is("an empty tape is a text", g.circuit(0), true);
        DUE.is("it has no equations", g.count(0), 0);
        DUE.is("nothing is asked", g.asked(0), 0);
        g = Due.of("   ", 0);
        DUE.is("blanks alone have no equations", g.count(0), 0);
    }

    private static void semicolons() {
        DUE.sentence("EQUATIONS with ; between");
        at(";", 0);
        at(";a=b", 0);
        at(" ;a=b", 1);
        at("a=b;", 4);
        at("a=b;;c=d", 4);
        at("a=b; ;c=d", 5);
        at("a=b c=d", 5);
        at("a=0c=d", 3);
        at("a=b,c=d", 3);
    }

    private static void plusSigns() {
        DUE.sentence("TERMS with + between");
        at("a=+", 2);
        at("a=+b", 2);
        at("a=b+", 4);
        at("a=b++c", 4);
        at("a=b+ +c", 5);
        at("a=b+;c=d", 4);
        at("+a=b", 0);
        at("a+b=c", 1);
    }

    private static void literalsOfATerm() {
        DUE.sentence("a TERM: one to eight LITERALS behind one another");
        at("a=;b=c", 2);
        at("a=b+;b=c", 4);
        for (int n = 1; n <= 8; n++) {
            at("a=" + Due.times(n, "b", ""), -1);
            at("a=" + Due.times(n, "b'", ""), -1);
        }
        DUE.is("the eighth counts", Due.of("a=bcdefghi", 0).asked(0x0fe), 0);
        DUE.is("the eighth counts", Due.of("a=bcdefghi", 0).asked(0x1fe), 1);
        at("a=bcdefghi+bcdefghi;b=bcdefghi", -1);
    }

    private static void ticks() {
        DUE.sentence("a LITERAL: a SIGNAL, or a SIGNAL and ' (its other value)");
        at("a='", 2);
        at("a='b", 2);
        at("a=b''", 4);
        at("a=b' '", 5);
        at("a=b+'", 4);
        at("a'=b", 1);
        at("a=b'c'", -1);
        GateWalk g = Due.of("a=b';c=d", 0);
        DUE.is("b at 0, d at 0", g.asked(0), 1);
        DUE.is("b at 1, d at 0", g.asked(2), 0);
        DUE.is("b at 0, d at 1", g.asked(8), 1 + 4);
    }

    private static void constants() {
        DUE.sentence("or for all TERMS 0 or 1");
        at("a=0", -1);
        at("a=1", -1);
        at("a=2", 2);
        at("a=/", 2);
        at("a=00", 3);
        at("a=10", 3);
        at("a=1'", 3);
        at("a=0b", 3);
        at("a=b0", 3);
        at("a=b1", 3);
        at("a=1+b", 3);
        at("a=b+1", 4);
        at("a=b'0", 4);
        at("a=0;b=1;c=0", -1);
        GateWalk g = Due.of("a=0;b=1", 0);
        DUE.is("b rises", g.asked(0), 2);
        DUE.is("a falls", g.asked(3), 1);
    }

    private static void blanks() {
        DUE.sentence("Blanks (32) stand where they like.");
        String text = "a=b'c+d;e=0;f=a'";
        for (int at = 0; at <= text.length(); at++) {
            GateWalk plain = Due.of(text, 0);
            String spread = text.substring(0, at) + "  " + text.substring(at);
            at(spread, -1);
            GateWalk g = Due.of(spread, 0);
            DUE.is("equations of \"" + spread + "\"", g.count(0), 3);
            DUE.is("terms of \"" + spread + "\"", g.count(1), 4);
            for (int state = 0; state < 64; state++) {
                DUE.is("asked(" + state + ") of \"" + spread + "\"", g.asked(state), plain.asked(state));
            }
        }
    }

    private static void noOtherBlanks() {
        DUE.sentence("Blanks (32)");
        String text = "a=b'c+d;e=0";
        int[] others = {1, 9, 10, 11, 12, 13, 31, 33, 127, 133, 160, 255};
        for (int at = 0; at <= text.length(); at++) {
            for (int sign : others) {
                at(text.substring(0, at) + (char) sign + text.substring(at), at);
            }
        }
        at("\t", 0);
        at("  \n", 2);
    }

    private static void oneEquation() {
        DUE.sentence("A SIGNAL has one EQUATION at most.");
        at(TWELVE_EQUATIONS, -1);
        DUE.is("twelve at most", Due.of(TWELVE_EQUATIONS, 0).count(0), 12);
        for (int x = 0; x < 12; x++) {
            at(TWELVE_EQUATIONS + ";" + (char) ('a' + x) + "=1", 48);
        }
        at("l=1;a=l;l=a", 8);
        at("a=1;b=a", -1);
        at("a=a;b=aab", -1);
    }

    private static void firstByte() {
        DUE.sentence("FAULT: the first byte at which no such can go on");
        at("?", 0);
        at("a=b;?;?", 4);
        at("a=b''+0;;a=a", 4);
        at("ab=c+", 1);
        at("a=b;a=bbbbbbbbb+", 4);
        at("a=bbbbbbbbb;a", 10);
        at("a=bcdefghi?", 10);
        at(Due.times(299, " ", "") + "?", 299);
        at("a=b" + Due.times(296, " ", "") + "0", 299);
    }

    private static void tooEarly() {
        DUE.sentence("(the length, if they end too early)");
        String text = "a=b'c+d;e=0;f=a' ";
        // Where a text may end: behind a literal, behind 0, and before anything has come.
        String mayEnd = "y..yyy.y...y...yyy";
        for (int n = 0; n <= text.length(); n++) {
            at(text.substring(0, n), mayEnd.charAt(n) == 'y' ? -1 : n);
        }
        at("a  ", 3);
        at("a =  ", 5);
        at("a=b;  ", 6);
        at(TWELVE_EQUATIONS + ";", 48);
        at(TWELVE_EQUATIONS + ";  ", 50);
        at(TWELVE_TERMS + "+", 26);
        at(TWELVE_TERMS + "+  ", 28);
        at("a=b+" + Due.times(296, " ", ""), 300);
    }

    private static void ninthLiteral() {
        DUE.sentence("a ninth LITERAL");
        at("a=bcdefghij", 10);
        at("a=bbbbbbbbb", 10);
        at("a=bbbbbbbb b", 11);
        at("a=b'b'b'b'b'b'b'b'b'", 18);
        at("a=c+bbbbbbbbb", 12);
        at("a=bbbbbbbb+bbbbbbbbb", 19);
        at("a=1;b=bbbbbbbbb", 14);
        at("a=bbbbbbbb'", -1);
    }

    private static void thirteenthTerm() {
        DUE.sentence("the thirteenth TERM of an EQUATION");
        at(TWELVE_TERMS, -1);
        at(TWELVE_TERMS + "cdefghi", -1);
        at(TWELVE_TERMS + "+b", 26);
        at(TWELVE_TERMS + "+l'a", 26);
        at(TWELVE_TERMS + " +  b", 29);
        at(TWELVE_TERMS + ";" + TWELVE_TERMS.replace('a', 'c'), -1);
        at(TWELVE_TERMS + ";" + TWELVE_TERMS.replace('a', 'c') + "+b", 52);
        GateWalk g = Due.of("a=" + Due.times(11, "b", "+") + "+c", 0);
        DUE.is("terms", g.count(1), 12);
        DUE.is("the twelfth counts", g.asked(4), 1);
    }

    private static void secondEquation() {
        DUE.sentence("a SIGNAL in front of = that has an EQUATION already");
        at("a=b;a=c", 4);
        at("a=b;a=b", 4);
        at("a=0;a=0", 4);
        at("a=b; a =c", 5);
        at("a=b;c=d;c=a", 8);
        at("l=b;l=c", 4);
        at("a=b;b=a;c=ab", -1);
    }

    // ---- promise 2

    private static void highestFirst() {
        DUE.sentence("2: Twenty bytes more come to the TAPE (of each number the highest first)");
        GateWalk g = new GateWalk();
        DUE.is("twenty", g.feed(0x613d6227, 0x2b632b64, 0x2b652b66, 0x3b623d61, 0x3b633d31), 20);
        DUE.is("a=b'+c+d+e+f;b=a;c=1", g.fault(), -1);
        DUE.is("circuit", g.circuit(0), true);
        DUE.is("asked(0)", g.asked(0), 1 + 4);
        DUE.is("asked(1)", g.asked(1), 2 + 4);
        DUE.is("asked(2)", g.asked(2), 2 + 4);
        DUE.is("signs behind 127", g.feed(0x80ff80ff, -1, Integer.MIN_VALUE, Integer.MAX_VALUE, 0x80808080), 17);
        DUE.is("twenty more come behind", g.feed(BLANKS, BLANKS, BLANKS, BLANKS, BLANKS), 37);
    }

    private static void zerosLeftOut() {
        DUE.sentence("2: bytes of 0 are left out");
        GateWalk g = new GateWalk();
        DUE.is("all 0", g.feed(0, 0, 0, 0, 0), 0);
        for (int shift = 0; shift < 32; shift += 8) {
            DUE.is("one byte, shifted by " + shift, g.feed(32 << shift, 0, 0, 0, 0), shift / 8 + 1);
        }
        DUE.is("one in each", g.feed('a' << 24, '=' << 16, 'b' << 8, ';', 'c' << 24), 9);
        DUE.is("two in each", g.feed('=' << 24 | 'd', '+' << 16 | 'e', '+' << 24 | 'f' << 16, 0, 0), 15);
        DUE.is("    a=b;c=d+e+f", g.fault(), -1);
        DUE.is("circuit", g.circuit(2 + 32), true);
        DUE.is("a and c are asked", g.asked(2 + 32), 1 + 4);
    }

    private static void moreThanThreeHundred() {
        DUE.sentence("2: NONE: more than 300.");
        GateWalk g = new GateWalk();
        for (int i = 1; i <= 14; i++) {
            g.feed(BLANKS, BLANKS, BLANKS, BLANKS, BLANKS);
        }
        DUE.is("280", g.count(6), 280);
        DUE.is("300 by one feed", g.feed(BLANKS, BLANKS, BLANKS, BLANKS, BLANKS), 300);
        DUE.is("301", g.feed(0, 0, 0, 0, 'a'), -1);
        DUE.is("320", g.feed(-1, -1, -1, -1, -1), -1);
        DUE.is("300 and no more", g.feed(0, 0, 0, 0, 0), 300);
        int[] bytes = {1, 32, 128, 255};
        for (int one : bytes) {
            for (int shift = 0; shift < 32; shift += 8) {
                int number = one << shift;
                DUE.is("in the first", g.feed(number, 0, 0, 0, 0), -1);
                DUE.is("in the second", g.feed(0, number, 0, 0, 0), -1);
                DUE.is("in the third", g.feed(0, 0, number, 0, 0), -1);
                DUE.is("in the fourth", g.feed(0, 0, 0, number, 0), -1);
                DUE.is("in the fifth", g.feed(0, 0, 0, 0, number), -1);
            }
        }
        DUE.is("300 still", g.count(6), 300);
        DUE.is("end(281)", g.end(281), true);
        DUE.is("of twenty bytes those of 0 do not count", g.feed('?', '?', BLANKS, BLANKS, -1), 295);
        DUE.is("301 by six", g.feed(0, BLANKS, 0, 0x2020, 0), -1);
        DUE.is("refused whole", g.count(6), 295);
        DUE.is("the first five come", g.feed(0, BLANKS, 0, 0x2000, 0), 300);
        DUE.is("the fault stays in its place", g.fault(), 281);
    }

    // ---- promise 3

    private static void firstBytesAlone() {
        DUE.sentence("3: The TAPE has its first n bytes alone.");
        GateWalk g = new GateWalk();
        DUE.is("end(0), empty", g.end(0), true);
        Due.feed(g, "a=b;c=d");
        DUE.is("end(7), all", g.end(7), true);
        DUE.is("all stay", g.count(6), 7);
        DUE.is("end(6)", g.end(6), true);
        DUE.is("the last is gone", g.fault(), 6);
        DUE.is("end(3)", g.end(3), true);
        DUE.is("the first three", g.fault(), -1);
        DUE.is("end(0)", g.end(0), true);
        DUE.is("empty", g.count(6), 0);
        DUE.is("circuit", g.circuit(0), true);
        DUE.is("no equations", g.count(0), 0);
        for (int i = 0; i < 15; i++) {
            g.feed(BLANKS, BLANKS, BLANKS, BLANKS, BLANKS);
        }
        DUE.is("end(300), full", g.end(300), true);
        DUE.is("end(299)", g.end(299), true);
        DUE.is("room for one", g.feed(0, 0, 0, 0, ';'), 300);
        DUE.is("it is the last", g.fault(), 299);
    }

    private static void wrongEnd() {
        DUE.sentence("3: False: n.");
        GateWalk g = new GateWalk();
        for (int n : Due.outside(0, 0)) {
            DUE.is("empty: end(" + n + ")", g.end(n), false);
        }
        Due.feed(g, "a=b;c=d");
        for (int n : Due.outside(0, 7)) {
            DUE.is("end(" + n + ")", g.end(n), false);
            DUE.is("all stay", g.count(6), 7);
        }
        DUE.is("end(300) of seven", g.end(300), false);
        DUE.is("end(5)", g.end(5), true);
        DUE.is("what is cut does not come back", g.end(7), false);
        DUE.is("nor the next", g.end(6), false);
    }

    // ---- promise 4

    private static void noFault() {
        DUE.sentence("4: The FAULT of the TAPE; NONE.");
        at("", -1);
        at("a=b", -1);
        at("?", 0);
        GateWalk g = new GateWalk();
        Due.feed(g, "a=b;");
        DUE.is("fault", g.fault(), 4);
        Due.feed(g, "c=d");
        DUE.is("goes as the tape grows", g.fault(), -1);
        Due.feed(g, "?");
        DUE.is("comes as the tape grows", g.fault(), 7);
        g.end(7);
        DUE.is("goes as the tape is cut", g.fault(), -1);
        g.circuit(0);
        DUE.is("of the tape, not of the text", g.fault(), -1);
        DUE.is("bytes of a longest text", longestText().length(), 300);
        DUE.is("a longest text", Due.faultOf(longestText()), -1);
        DUE.is("a longest text with a fault", Due.faultOf(longestText().substring(0, 299) + "+"), 300);
    }

    /** Three hundred bytes without a blank. */
    private static String longestText() {
        String terms = Due.times(12, "bcde'", "+");
        return "a=" + terms + ";b=" + terms + ";c=" + terms + ";d=" + terms + ";e=bc";
    }

    private static void faultKeepsTheTape() {
        DUE.sentence("4: The FAULT of the TAPE");
        GateWalk g = new GateWalk();
        Due.feed(g, "a=a'");
        DUE.is("fault", g.fault(), -1);
        DUE.is("again", g.fault(), -1);
        DUE.is("bytes", g.count(6), 4);
        DUE.is("the circuit is still none", g.count(0), 0);
        DUE.is("nothing is asked yet", g.asked(0), 0);
        DUE.is("circuit", g.circuit(0), true);
        DUE.is("asked", g.asked(0), 1);
        Due.feed(g, "b=b';a=?");
        DUE.is("fault", g.fault(), 7);
        DUE.is("the circuit stays", g.asked(0), 1);
        DUE.is("its count too", g.count(0), 1);
    }
}
