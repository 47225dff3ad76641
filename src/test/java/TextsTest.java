/** Promises 21 to 24: texts. */
public final class TextsTest {
    private static void put() {
        Due due = new Due("promise 21");
        TokenNets x = new TokenNets();
        due.is("put(0)", x.put(0), -2);
        due.is("put(32)", x.put(32), -2);
        due.is("put(127)", x.put(127), -2);
        due.is("put(255)", x.put(255), -2);
        due.is("put(-1)", x.put(-1L), -2);
        due.is("put(least long)", x.put(Long.MIN_VALUE), -2);
        due.is("put(256)", x.put(256L), -2);
        due.is("put(a gap)", x.put(0x700031L), -2);
        due.is("put(a far bit)", x.put(0x0100000000000031L), -2);
        due.is("put(p and 0)", x.put(0x7000L), -2);
        due.is("count(5)", x.count(5), 0);
        due.is("put(33)", x.put(33), 1);
        due.is("put(126)", x.put(126), 2);
        due.is("fault(), ! and no digit", x.fault(), 1);
        x.wipe();
        due.is("put(p1)", x.put(0x7031L), 2);
        due.is("put(eight)", x.put(Due.packed(";p2;p3;p")), 10);
        due.is("put(4)", x.put('4'), 11);
        due.is("fault()", x.fault(), -6);
        due.is("carryOut()", x.carryOut(), 4);
        due.is("ofPlace(0, 0)", x.ofPlace(0, 0), 1);
        due.is("ofPlace(3, 0)", x.ofPlace(3, 0), 4);
        for (int i = 1; i <= 9; i++) {
            due.is("put(pppppppp)", x.put(Due.packed("pppppppp")), 8 * i);
        }
        due.is("put(eight that are not allowed)", x.put(Due.packed("ppp ppp~")), -2);
        due.is("put(seven)", x.put(Due.packed("ppppppp")), 79);
        due.is("put(two)", x.put(Due.packed("pp")), -4);
        due.is("put(a bad one)", x.put(32), -2);
        due.is("put(one)", x.put('p'), 80);
        due.is("put(one)", x.put('p'), -4);
        due.is("count(5)", x.count(5), 80);
        due.is("count(6), no change", x.count(6), 1);
    }

    private static void wipe() {
        Due due = new Due("promise 22");
        TokenNets x = new TokenNets();
        due.is("wipe()", x.wipe(), 0);
        Due.write(x, "p1;p2;p3x");
        due.is("wipe()", x.wipe(), 9);
        due.is("wipe()", x.wipe(), 0);
        due.is("count(5)", x.count(5), 0);
        due.is("count(6)", x.count(6), 0);
        due.is("fault()", x.fault(), 0);
        Due.write(x, "p4");
        due.is("carryOut()", x.carryOut(), 1);
        due.is("ofPlace(0, 0)", x.ofPlace(0, 0), 4);
    }

    private static void fault(String text, int want) {
        TokenNets x = new TokenNets();
        Due.write(x, text);
        new Due("promise 23").is("fault() of " + text, x.fault(), want);
        new Due("promise 23").is("count(5) of " + text, x.count(5), text.length());
    }

    private static void faults() {
        for (String good : new String[] {"p0", "p7", "p10", "p999", "m", "m<0", "m>9", "m<0>1", "m<0,1,2>3,4*0", "m<9*9,9*0>8",
                "!0", "!9", "=0:0", "=9:999", "p1;m;!2;=3:4", "m;m;m", "m<0;m>1;p1"}) {
            fault(good, -6);
        }
        fault("", 0);
        fault("p", 1);
        fault("p1;", 3);
        fault(";", 0);
        fault("p1;;p2", 3);
        fault("p00", 2);
        fault("p01", 2);
        fault("p1000", 4);
        fault("p9999", 4);
        fault("p1x", 2);
        fault("px", 1);
        fault("p;", 1);
        fault("x", 0);
        fault("0", 0);
        fault("mp", 1);
        fault("m;x", 2);
        fault("m<", 2);
        fault("m>", 2);
        fault("m<>0", 2);
        fault("m<0<1", 3);
        fault("m>0>1", 3);
        fault("m>0<1", 3);
        fault("m<01", 3);
        fault("m<0*", 4);
        fault("m<0*12", 5);
        fault("m<0**1", 4);
        fault("m<0*1*1", 5);
        fault("m<0,", 4);
        fault("m<0,,1", 4);
        fault("m<0,>1", 4);
        fault("m<0*;", 4);
        fault("m>0*", 4);
        fault("m>0*12", 5);
        fault("m>0*1*1", 5);
        fault("m>0,", 4);
        fault("m>0,;", 4);
        fault("m>01", 3);
        fault("m,", 1);
        fault("!", 1);
        fault("!12", 2);
        fault("!x", 1);
        fault("!;", 1);
        fault("=", 1);
        fault("=1", 2);
        fault("=1:", 3);
        fault("=12:3", 2);
        fault("=:3", 1);
        fault("=1;3", 2);
        fault("=1:03", 4);
        fault("=1:1000", 6);
        fault("=1:;", 3);
        fault("P1", 0);
        fault("p1:2", 2);
        fault("p1,2", 2);
        String long80 = "p1;p2;p3;p4;p5;p6;p7;p8;p9;p0;p1;p2;p3;p4;p5;p6;p7;p8;p9;p0;p1;p2;p3;p4;p5;p6;p7";
        fault(long80.substring(0, 80), -6);
        fault(long80.substring(0, 79) + "m", 79);
        fault(long80.substring(0, 78) + "p", 79);
    }

    private static void carryOut() {
        Due due = new Due("promise 24");
        TokenNets x = new TokenNets();
        due.is("carryOut() of nothing", x.carryOut(), -3);
        Due.write(x, "p5;p0;m<0*2>1*3,0;!0;=1:12;m;p1;!1");
        due.is("carryOut()", x.carryOut(), 8);
        due.is("count(5)", x.count(5), 0);
        due.is("count(6)", x.count(6), 1);
        due.is("count(0)", x.count(0), 3);
        due.is("count(1)", x.count(1), 2);
        due.is("ofPlace(0, 0)", x.ofPlace(0, 0), 4);
        due.is("ofPlace(1, 0)", x.ofPlace(1, 0), 12);
        due.is("ofPlace(1, 3)", x.ofPlace(1, 3), 12);
        due.is("ofArc(0, 0, 0)", x.ofArc(0, 0, 0), 2);
        due.is("ofArc(0, 0, 1)", x.ofArc(0, 0, 1), 1);
        due.is("ofArc(0, 1, 1)", x.ofArc(0, 1, 1), 3);
        due.is("ofArc(0, 1, 0)", x.ofArc(0, 1, 0), 0);
        due.is("count(4)", x.count(4), 2);
        // The last word counts for a place that is told twice in one list.
        Due.write(x, "m<0*7,1,0>1*4,1*0");
        due.is("carryOut()", x.carryOut(), 1);
        due.is("ofArc(2, 0, 0)", x.ofArc(2, 0, 0), 1);
        due.is("ofArc(2, 1, 0)", x.ofArc(2, 1, 0), 1);
        due.is("ofArc(2, 1, 1)", x.ofArc(2, 1, 1), 0);
        due.is("count(6)", x.count(6), 2);
        // It ends with the first error, and what was done stays.
        Due.write(x, "=0:9;!7;=1:9");
        due.is("carryOut(), no such move", x.carryOut(), 1);
        due.is("ofPlace(0, 0)", x.ofPlace(0, 0), 9);
        due.is("ofPlace(1, 0)", x.ofPlace(1, 0), 12);
        due.is("count(5)", x.count(5), 0);
        Due.write(x, "=5:1;p1");
        due.is("carryOut(), no such place", x.carryOut(), 0);
        due.is("count(6), also a change", x.count(6), 4);
        due.is("count(0)", x.count(0), 3);
        Due.write(x, "m<0,2>3*0;p1");
        due.is("carryOut(), no such place to give to", x.carryOut(), 0);
        due.is("count(1), no move came", x.count(1), 3);
        Due.write(x, "m<9;p1");
        due.is("carryOut(), no such place to take from", x.carryOut(), 0);
        due.is("count(1), no move came", x.count(1), 3);
        due.is("undo()", x.undo(), 5);
        // A text with a fault stays, and is no change.
        Due.write(x, "p1;p");
        due.is("carryOut() with a fault", x.carryOut(), -3);
        due.is("count(5)", x.count(5), 4);
        due.is("count(6)", x.count(6), 5);
        due.is("count(0)", x.count(0), 3);
        Due.write(x, "8");
        due.is("carryOut()", x.carryOut(), 2);
        due.is("ofPlace(4, 0)", x.ofPlace(4, 0), 8);
        due.is("undo()", x.undo(), 5);
        due.is("count(0), all orders at once", x.count(0), 3);
        Due.write(x, "m;m;m;m;m;m;p1");
        due.is("carryOut(), too many moves", x.carryOut(), 5);
        due.is("count(1)", x.count(1), 8);
        Due.write(x, "p1;p1;p1;p1;p1;p1;!0");
        due.is("carryOut(), too many places", x.carryOut(), 5);
        due.is("count(0)", x.count(0), 8);
        Due.write(x, "=0:1;!0;p1");
        due.is("carryOut(), not possible", x.carryOut(), 1);
        due.is("ofMove(0, 1)", x.ofMove(0, 1), 1);
        // As many orders as the pad has room for.
        TokenNets y = Due.net("m");
        Due.write(y, "!0;!0;!0;!0;!0;!0;!0;!0;!0;!0;!0;!0;!0;!0;!0;!0;!0;!0;!0;!0;!0;!0;!0;!0;!0;!0;!0");
        due.is("count(5)", y.count(5), 80);
        due.is("carryOut()", y.carryOut(), 27);
        due.is("ofMove(0, 1)", y.ofMove(0, 1), 27);
        due.is("undo()", y.undo(), 1);
        due.is("ofMove(0, 1)", y.ofMove(0, 1), 0);
    }

    public static void main(String[] args) {
        put();
        wipe();
        faults();
        carryOut();
        Due.end();
    }
}
