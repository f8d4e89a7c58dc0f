/** Promises 2 and 3: feed and end. */
final class TapeTest {
    public static void main(String[] args) {
        Due due = new Due();
        bytesComeInOrder(due);
        atMostThreeHundred(due);
        endCuts(due);
        due.finish();
    }

    private static void bytesComeInOrder(Due due) {
        GateWalk g = new GateWalk();
        due.is("nothing but zeros", g.feed(0, 0, 0, 0, 0), 0);
        due.is("zeros between", g.feed('a', '=' << 8, 'b' << 16, '\'' << 24, 0), 4);
        due.is("fault of a=b'", g.fault(), -1);
        due.is("circuit", g.circuit(0), true);
        due.is("asked(0) of a=b'", g.asked(0), 1);
        due.is("asked(2) of a=b'", g.asked(2), 0);
        due.is("highest first", g.feed('b' << 24 | '=' << 16 | 'c' << 8 | ';', 0, 0, 0, 'd'), 5);
        due.is("ends behind d", g.fault(), 5);
        due.is("second feed comes behind", g.feed('=' << 24 | '1', 0, 0, 0, 0), 7);
        due.is("no fault", g.fault(), -1);
        due.is("a number below 0 is four bytes", g.feed(-1, 0, 0, 0, 0), 11);
        due.is("byte 255 is a fault", g.fault(), 7);
    }

    private static void atMostThreeHundred(Due due) {
        GateWalk g = new GateWalk();
        int blanks = 0x20202020;
        for (int i = 1; i <= 14; i++) {
            due.is("feed " + i, g.feed(blanks, blanks, blanks, blanks, blanks), 20 * i);
        }
        due.is("one byte more", g.feed(0, 0, 0x2000, 0, 0), 281);
        due.is("301 are refused", g.feed(blanks, blanks, blanks, blanks, blanks), -1);
        due.is("refused changes nothing", g.count(6), 281);
        due.is("19 more are 300", g.feed(blanks, blanks, blanks, blanks, 0x00202020), 300);
        due.is("zeros alone still come", g.feed(0, 0, 0, 0, 0), 300);
        due.is("one more is refused", g.feed(0, 0, 0, 0, 32), -1);
        due.is("count(6)", g.count(6), 300);
        due.is("300 blanks have no fault", g.fault(), -1);
        due.is("circuit", g.circuit(0), true);
        due.is("the tape is empty then", g.feed(32, 0, 0, 0, 0), 1);
    }

    private static void endCuts(Due due) {
        GateWalk g = new GateWalk();
        due.is("end(0) of an empty tape", g.end(0), true);
        due.is("end(1) of an empty tape", g.end(1), false);
        Due.feed(g, "a=b;c");
        due.is("end(-1)", g.end(-1), false);
        due.is("end(6)", g.end(6), false);
        due.is("end(max)", g.end(Integer.MAX_VALUE), false);
        due.is("end(min)", g.end(Integer.MIN_VALUE), false);
        due.is("refused changes nothing", g.count(6), 5);
        due.is("end(5)", g.end(5), true);
        due.is("all stay", g.count(6), 5);
        due.is("end(3)", g.end(3), true);
        due.is("three stay", g.count(6), 3);
        due.is("the first stay", g.fault(), -1);
        due.is("cut ones do not come back", g.end(4), false);
        due.is("end(1)", g.end(1), true);
        due.is("cut ones are not read", g.fault(), 1);
        due.is("feed", Due.feed(g, "=b"), 3);
        due.is("feed goes on there", Due.feed(g, ";d=e"), 7);
        due.is("circuit", g.circuit(2 + 16), true);
        due.is("a and d are asked", g.asked(2 + 16), 1 + 8);
    }
}
