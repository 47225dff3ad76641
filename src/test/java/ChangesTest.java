/** Promises 1 to 7: a new object and the changes. */
public final class ChangesTest {
    private static void newObject() {
        Due due = new Due("promise 1");
        TokenNets x = new TokenNets();
        for (int what = 0; what <= 6; what++) {
            due.is("count(" + what + ")", x.count(what), 0);
        }
        due.is("undo()", x.undo(), -5);
        due.is("restore(0)", x.restore(0), -5);
        due.is("restore(1)", x.restore(1), -5);
        due.is("keptMany()", x.keptMany(), 0);
        due.is("fault()", x.fault(), 0);
        due.is("growth(3)", x.growth(3), 0);
        TokenNets other = new TokenNets();
        x.place(3);
        due.is("count(0) of another object", other.count(0), 0);
    }

    private static void constants() {
        Due due = new Due("constants");
        due.is("NO_SUCH", TokenNets.NO_SUCH, -1);
        due.is("BAD_VALUE", TokenNets.BAD_VALUE, -2);
        due.is("BAD_TEXT", TokenNets.BAD_TEXT, -3);
        due.is("TOO_MANY", TokenNets.TOO_MANY, -4);
        due.is("NOT_POSSIBLE", TokenNets.NOT_POSSIBLE, -5);
        due.is("NONE", TokenNets.NONE, -6);
    }

    private static void place() {
        Due due = new Due("promise 2");
        TokenNets x = new TokenNets();
        due.is("place(-1)", x.place(-1), -2);
        due.is("place(1000)", x.place(1000), -2);
        due.is("place(least int)", x.place(Integer.MIN_VALUE), -2);
        due.is("count(0)", x.count(0), 0);
        due.is("count(6) after errors", x.count(6), 0);
        for (int p = 0; p < 8; p++) {
            due.is("place", x.place(p == 0 ? 999 : p == 1 ? 0 : 5), p);
        }
        due.is("place(0), the ninth", x.place(0), -4);
        due.is("place(1000), the ninth", x.place(1000), -2);
        due.is("count(0)", x.count(0), 8);
        due.is("ofPlace(0, 0)", x.ofPlace(0, 0), 999);
        due.is("ofPlace(1, 0)", x.ofPlace(1, 0), 0);
        due.is("ofPlace(7, 3)", x.ofPlace(7, 3), 5);
        due.is("undo()", x.undo(), 5);
        due.is("place(4)", x.place(4), 7);
        due.is("ofPlace(7, 0)", x.ofPlace(7, 0), 4);
    }

    private static void move() {
        Due due = new Due("promise 3");
        TokenNets x = Due.net("p1;p2");
        for (int m = 0; m < 8; m++) {
            due.is("move()", x.move(), m);
            due.is("ofMove(m, 2)", x.ofMove(m, 2), 0);
            due.is("ofMove(m, 3)", x.ofMove(m, 3), 0);
        }
        due.is("count(6)", x.count(6), 6);
        due.is("move(), the ninth", x.move(), -4);
        due.is("count(1)", x.count(1), 8);
        due.is("undo()", x.undo(), 5);
        due.is("count(1)", x.count(1), 7);
        x.move();
        x.arc(7, 0, 1, 0);
        x.make(7);
        x.undo();
        x.undo();
        x.undo();
        due.is("move() again", x.move(), 7);
        due.is("ofArc(7, 0, 0)", x.ofArc(7, 0, 0), 0);
        due.is("ofMove(7, 1)", x.ofMove(7, 1), 0);
    }

    private static void arc() {
        Due due = new Due("promise 4");
        TokenNets x = Due.net("p1;p2;m;m");
        due.is("arc(0, 0, 0, 0)", x.arc(0, 0, 0, 0), 0);
        due.is("arc(0, 0, 3, 7)", x.arc(0, 0, 3, 7), 0);
        due.is("arc(0, 0, 9, 9)", x.arc(0, 0, 9, 9), 37);
        due.is("arc(0, 0, 0, 1)", x.arc(0, 0, 0, 1), 99);
        due.is("arc(1, 1, 4, 0)", x.arc(1, 1, 4, 0), 0);
        due.is("arc(1, 1, 4, 0)", x.arc(1, 1, 4, 0), 40);
        int before = x.count(6);
        due.is("arc(2, 0, 0, 0)", x.arc(2, 0, 0, 0), -1);
        due.is("arc(-1, 0, 0, 0)", x.arc(-1, 0, 0, 0), -1);
        due.is("arc(0, 2, 10, 0)", x.arc(0, 2, 10, 0), -1);
        due.is("arc(0, -1, 0, 0)", x.arc(0, -1, 0, 0), -1);
        due.is("arc(0, 0, 10, 0)", x.arc(0, 0, 10, 0), -2);
        due.is("arc(0, 0, -1, 0)", x.arc(0, 0, -1, 0), -2);
        due.is("arc(0, 0, 0, 10)", x.arc(0, 0, 0, 10), -2);
        due.is("arc(0, 0, 0, -1)", x.arc(0, 0, 0, -1), -2);
        due.is("ofArc(0, 0, 0)", x.ofArc(0, 0, 0), 0);
        due.is("ofArc(0, 0, 1)", x.ofArc(0, 0, 1), 1);
        due.is("count(6)", x.count(6), before);
    }

    private static void tokens() {
        Due due = new Due("promise 5");
        TokenNets x = Due.net("p5;p2;m>0*9;!0");
        due.is("ofPlace(0, 3)", x.ofPlace(0, 3), 14);
        due.is("tokens(0, 3)", x.tokens(0, 3), 14);
        due.is("ofPlace(0, 0)", x.ofPlace(0, 0), 3);
        due.is("ofPlace(0, 3)", x.ofPlace(0, 3), 3);
        due.is("tokens(1, 999)", x.tokens(1, 999), 2);
        due.is("tokens(1, 0)", x.tokens(1, 0), 999);
        due.is("ofPlace(1, 3)", x.ofPlace(1, 3), 0);
        due.is("tokens(2, 1000)", x.tokens(2, 1000), -1);
        due.is("tokens(-1, 0)", x.tokens(-1, 0), -1);
        due.is("tokens(0, 1000)", x.tokens(0, 1000), -2);
        due.is("tokens(0, -1)", x.tokens(0, -1), -2);
        due.is("ofPlace(0, 0)", x.ofPlace(0, 0), 3);
        due.is("count(6)", x.count(6), 4);
    }

    private static void make() {
        Due due = new Due("promise 6");
        TokenNets x = Due.net("p2;p0;m<0>1;m<1*2>0;m");
        due.is("make(1)", x.make(1), -5);
        due.is("make(0)", x.make(0), 2);
        due.is("make(0)", x.make(0), 2);
        due.is("make(0)", x.make(0), -5);
        due.is("count(6)", x.count(6), 3);
        due.is("make(1)", x.make(1), 2);
        due.is("ofPlace(0, 0)", x.ofPlace(0, 0), 1);
        due.is("ofPlace(1, 0)", x.ofPlace(1, 0), 0);
        due.is("ofPlace(1, 3)", x.ofPlace(1, 3), 2);
        due.is("make(2)", x.make(2), 2);
        due.is("make(3)", x.make(3), -1);
        due.is("make(-1)", x.make(-1), -1);
        due.is("ofMove(0, 1)", x.ofMove(0, 1), 2);
        due.is("count(4)", x.count(4), 4);
        // A move takes before it gives, so it cannot live on what it gives.
        TokenNets y = Due.net("p1;m<0*2>0*9");
        due.is("make(0) with too few", y.make(0), -5);
        due.is("tokens(0, 2)", y.tokens(0, 2), 1);
        due.is("make(0)", y.make(0), 1);
        due.is("ofPlace(0, 0)", y.ofPlace(0, 0), 9);
        due.is("ofPlace(0, 3)", y.ofPlace(0, 3), 9);
        // Only what is there in the end counts for the most tokens.
        TokenNets z = Due.net("p9;m<0*9>0*3;!0");
        due.is("ofPlace(0, 0)", z.ofPlace(0, 0), 3);
        due.is("ofPlace(0, 3)", z.ofPlace(0, 3), 9);
    }

    /** A place with 99999 tokens and a move that gives one to it; the second move changes nothing. */
    private static TokenNets full() {
        TokenNets x = Due.net("p999;m>0*9");
        for (int i = 0; i < 111; i++) {
            x.run(i, 99);
        }
        for (int i = 0; i < 11; i++) {
            x.make(0);
        }
        return x;
    }

    private static void mostTokens() {
        Due due = new Due("the bound of 99999");
        TokenNets x = full();
        due.is("ofPlace(0, 0)", x.ofPlace(0, 0), 99999);
        due.is("make(0)", x.make(0), -5);
        due.is("run(0, 1)", x.run(0, 1), 0);
        due.is("ofMove(0, 0)", x.ofMove(0, 0), 0);
        due.is("count(3)", x.count(3), 0);
        due.is("reached(0)", x.reached(0), 1);
        due.is("reached(1)", x.reached(1), 1);
        due.is("reached(2)", x.reached(2), 0);
        due.is("growth(0)", x.growth(0), 3);
        due.is("growth(1)", x.growth(1), 1);
        due.is("growth(2)", x.growth(2), 1);
        due.is("bound(0)", x.bound(0), -6);
        due.is("arc(0, 0, 9, 9)", x.arc(0, 0, 9, 9), 9);
        due.is("make(0) that takes as much as it gives", x.make(0), 1);
        due.is("arc(0, 0, 8, 9)", x.arc(0, 0, 8, 9), 99);
        due.is("make(0) that gives one more", x.make(0), -5);
        due.is("arc(0, 0, 9, 8)", x.arc(0, 0, 9, 8), 89);
        due.is("make(0) that takes one more", x.make(0), 1);
        due.is("ofPlace(0, 3)", x.ofPlace(0, 3), 99999);
        due.is("arc(0, 0, 0, 1)", x.arc(0, 0, 0, 1), 98);
        due.is("make(0) up to the bound", x.make(0), 0);
        due.is("ofPlace(0, 0)", x.ofPlace(0, 0), 99999);
    }

    private static void run() {
        Due due = new Due("promise 7");
        TokenNets x = Due.net("p0;p0;p0;m>0;m>1;m>2");
        due.is("run(-1, 1)", x.run(-1, 1), -2);
        due.is("run(0, 0)", x.run(0, 0), -2);
        due.is("run(0, 100)", x.run(0, 100), -2);
        due.is("count(6)", x.count(6), 1);
        // 12345 / 65536 is 0: the first move; then 1406932606 / 65536 is 21468, which 3 divides.
        due.is("run(0, 1)", x.run(0, 1), 1);
        due.is("ofPlace(0, 0)", x.ofPlace(0, 0), 1);
        due.is("run(12345, 1)", x.run(12345, 1), 1);
        due.is("ofPlace(0, 0)", x.ofPlace(0, 0), 2);
        // 654583775 / 65536 is 9988, of which 3 leave 1.
        due.is("run(1406932606, 1)", x.run(1406932606, 1), 1);
        due.is("ofPlace(1, 0)", x.ofPlace(1, 0), 1);
        due.is("undo()", x.undo(), 3);
        due.is("undo()", x.undo(), 2);
        due.is("undo()", x.undo(), 1);
        due.is("run(0, 3)", x.run(0, 3), 3);
        due.is("ofPlace(0, 0)", x.ofPlace(0, 0), 2);
        due.is("ofPlace(1, 0)", x.ofPlace(1, 0), 1);
        due.is("ofMove(0, 1)", x.ofMove(0, 1), 2);
        due.is("run(most int, 99)", x.run(Integer.MAX_VALUE, 99), 99);
        due.is("count(4)", x.count(4), 102);
        due.is("count(2)", x.count(2), 102);
        due.is("count(6), one for each run", x.count(6), 3);
        TokenNets y = Due.net("p4;p0;m<0>1");
        due.is("run(5, 9) that ends early", y.run(5, 9), 4);
        due.is("run(5, 9) that does nothing", y.run(5, 9), 0);
        due.is("count(6)", y.count(6), 3);
        due.is("ofPlace(1, 3)", y.ofPlace(1, 3), 4);
        due.is("run on nothing", new TokenNets().run(0, 1), 0);
    }

    public static void main(String[] args) {
        newObject();
        constants();
        place();
        move();
        arc();
        tokens();
        make();
        mostTokens();
        run();
        Due.end();
    }
}
