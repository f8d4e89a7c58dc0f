/** Promise 4: fault, and the rules of a text. */
final class FaultTest {
    private static final Due DUE = new Due();

    public static void main(String[] args) {
        noFaults();
        faultsAtBytes();
        endsTooEarly();
        limits();
        DUE.finish();
    }

    private static void at(String text, int want) {
        DUE.is("fault of \"" + text + "\"", Due.faultOf(text), want);
    }

    private static void noFaults() {
        at("", -1);
        at(" ", -1);
        at("    ", -1);
        at("a=b", -1);
        at("a=a", -1);
        at("l=l'", -1);
        at("a=0", -1);
        at("a=1;b=0", -1);
        at("a=bb'b+b", -1);
        at("  a  =  b  '  c  +  d  ;  e  =  1  ", -1);
        at("a=1;b=1;c=1;d=1;e=1;f=1;g=1;h=1;i=1;j=1;k=1;l=1", -1);
    }

    private static void faultsAtBytes() {
        at(";", 0);
        at("  ;", 2);
        at("m=a", 0);
        at("A=a", 0);
        at("`=a", 0);
        at("0=a", 0);
        at("=a", 0);
        at("'", 0);
        at("aa", 1);
        at("a'=b", 1);
        at("a b", 2);
        at("a==b", 2);
        at("a='b", 2);
        at("a=+b", 2);
        at("a=;b=c", 2);
        at("a=m", 2);
        at("a=2", 2);
        at("a=b''", 4);
        at("a=b0", 3);
        at("a=b+0", 4);
        at("a=b+1", 4);
        at("a=0+b", 3);
        at("a=01", 3);
        at("a=1'", 3);
        at("a=1b", 3);
        at("a=b=c", 3);
        at("a=b++c", 4);
        at("a=b+;c=d", 4);
        at("a=b;;c=d", 4);
        at("a=b\tc", 3);
        at("a=b\n", 3);
        at("a=\u00e1", 2);
        at("a=b;a=c", 4);
        at("a=b;  a", 6);
        at("a=b;c=d;a=b", 8);
        at("a=1;b=1;c=1;d=1;e=1;f=1;g=1;h=1;i=1;j=1;k=1;l=1;a", 48);
    }

    private static void endsTooEarly() {
        at("a", 1);
        at("a  ", 3);
        at("a=", 2);
        at("a= ", 3);
        at("a=b+", 4);
        at("a=b'+", 5);
        at("a=b;", 4);
        at("a=b;   ", 7);
        at("a=b;c", 5);
        at("a=1;b=1;c=1;d=1;e=1;f=1;g=1;h=1;i=1;j=1;k=1;l=1;", 48);
    }

    private static void limits() {
        at("a=bcdefghi", -1);
        at("a=bcdefghij", 10);
        at("a=bbbbbbbb", -1);
        at("a=bbbbbbbbb", 10);
        at("a=b'c'd'e'f'g'h'i'", -1);
        at("a=b'c'd'e'f'g'h'i'j'", 18);
        at("a=b'c'd'e'f'g'h'i''", 18);
        at("a=bcdefghi  j", 12);
        at("a=b+bcdefghij", 12);
        at("a=bcdefghi+jklabcde;b=c", -1);
        String twelve = "a=" + Due.times(12, "b", "+");
        at(twelve, -1);
        at(twelve + ";b=" + Due.times(12, "c'd", "+"), -1);
        at(twelve + "+b", 26);
        at(twelve + "+ b", 27);
        at(twelve + "+", 26);
        at(twelve + "+ ", 27);
        at(twelve + "+;", 26);
        at(twelve + "c", -1);
        at(twelve + "0", 25);
    }
}
