/** Promises 14 to 16: kept sums, traps and drains. */
public final class StructureTest {
    private static void sums(String about, TokenNets x, int[]... want) {
        Due due = new Due("promises 14 and 15, " + about);
        due.is("keptMany()", x.keptMany(), want.length);
        for (int s = 0; s < want.length; s++) {
            int worth = 0;
            for (int p = 0; p < want[s].length; p++) {
                due.is("kept(" + s + ", " + p + ")", x.kept(s, p), want[s][p]);
                worth += want[s][p] * x.ofPlace(p, 0);
            }
            due.is("kept(" + s + ", 8)", x.kept(s, 8), worth);
        }
        due.is("kept(keptMany(), 0)", x.kept(want.length, 0), -1);
    }

    private static int[] row(int... weights) {
        return weights;
    }

    private static void kept() {
        sums("nothing", new TokenNets());
        sums("only moves", Due.net("m;m"));
        sums("places alone", Due.net("p1;p2;p3"), row(0, 0, 1), row(0, 1, 0), row(1, 0, 0));
        sums("one for one", Due.net("p1;p2;m<0>1"), row(1, 1));
        sums("two for two", Due.net("p1;p2;m<0*2>1*2"), row(1, 1));
        sums("three for two", Due.net("p1;p2;m<0*3>1*2"), row(2, 3));
        sums("four for one", Due.net("p1;p2;m<0*4>1"));
        sums("three for one", Due.net("p1;p2;m<0*3>1"), row(1, 3));
        sums("a move that takes what it gives", Due.net("p7;m<0*2>0*2"), row(1));
        sums("a move that gives", Due.net("p7;m<0*2>0*3"));
        sums("several of the same places", Due.net("p1;p2;p3;m<0*4>1,2"), row(1, 1, 3), row(1, 2, 2), row(1, 3, 1));
        sums("two for one of two", Due.net("p5;p6;p7;m<0>1,2"), row(1, 0, 1), row(1, 1, 0));
        sums("a ring", Due.net("p1;p0;p0;m<0>1;m<1>2;m<2>0"), row(1, 1, 1));
        sums("two rings", Due.net("p1;p0;p4;p0;m<0>1;m<1>0;m<2>3;m<3*2>2*2"), row(0, 0, 1, 1), row(1, 1, 0, 0));
        sums("all eight", Due.net("p1;p1;p1;p1;p1;p1;p1;p1;m<0>1;m<1>2;m<2>3;m<3>4;m<4>5;m<5>6;m<6>7;m<7>0"),
                row(1, 1, 1, 1, 1, 1, 1, 1));
        TokenNets many = new TokenNets();
        for (int p = 0; p < 8; p++) {
            many.place(p);
        }
        many.move();
        int[] gains = {3, -7, 1, 3, 3, 3, -7, 3};
        for (int p = 0; p < 8; p++) {
            many.arc(0, p, Math.max(0, -gains[p]), Math.max(0, gains[p]));
        }
        PlainNets plain = new PlainNets();
        for (int p = 0; p < 8; p++) {
            plain.place(p);
        }
        plain.move();
        for (int p = 0; p < 8; p++) {
            plain.arc(0, p, Math.max(0, -gains[p]), Math.max(0, gains[p]));
        }
        Due due = new Due("promise 15, very many");
        due.is("keptMany()", many.keptMany(), 130);
        due.is("keptMany()", many.keptMany(), plain.keptMany());
        for (int s = 0; s < 130; s++) {
            for (int what = 0; what <= 8 && s % 8 == what % 8; what++) {
                due.is("kept(" + s + ", " + what + ")", many.kept(s, what), plain.kept(s, what));
            }
        }
    }

    private static void keptErrors() {
        Due due = new Due("promise 14, errors");
        TokenNets x = Due.net("p1;p2;m<0>1");
        due.is("kept(0, 8)", x.kept(0, 8), 3);
        due.is("kept(0, 2)", x.kept(0, 2), -2);
        due.is("kept(0, 7)", x.kept(0, 7), -2);
        due.is("kept(0, 9)", x.kept(0, 9), -2);
        due.is("kept(0, -1)", x.kept(0, -1), -2);
        due.is("kept(1, 9)", x.kept(1, 9), -1);
        due.is("kept(-1, 0)", x.kept(-1, 0), -1);
        due.is("kept(least int, 0)", x.kept(Integer.MIN_VALUE, 0), -1);
        x.tokens(0, 100);
        due.is("kept(0, 8) with other tokens", x.kept(0, 8), 102);
        x.arc(0, 1, 0, 2);
        due.is("kept(0, 0) with other arcs", x.kept(0, 0), 2);
        due.is("kept(0, 8) with other arcs", x.kept(0, 8), 202);
        x.undo();
        due.is("kept(0, 0) after undo", x.kept(0, 0), 1);
        x.place(5);
        due.is("keptMany() with one more place", x.keptMany(), 2);
        x.move();
        x.arc(1, 2, 1, 0);
        due.is("keptMany() with one more move", x.keptMany(), 1);
    }

    private static void trap() {
        Due due = new Due("promise 16");
        // 0 -> 1 -> 2, and 2 -> nowhere; from nowhere to 0.
        TokenNets x = Due.net("p1;p2;p4;m<0>1;m<1>2;m<2;m>0");
        due.is("trap(7, 0)", x.trap(7, 0), 0);
        due.is("trap(7, 1)", x.trap(7, 1), 0);
        due.is("arc(2, 0, 0, 1)", x.arc(2, 0, 0, 1), 0);
        due.is("trap(7, 0), a ring", x.trap(7, 0), 7);
        due.is("trap(7, 2)", x.trap(7, 2), 7);
        due.is("trap(7, 1), filled from outside", x.trap(7, 1), 0);
        due.is("arc(3, 2, 1, 0)", x.arc(3, 2, 1, 0), 0);
        due.is("trap(7, 1)", x.trap(7, 1), 7);
        due.is("trap(7, 3)", x.trap(7, 3), 7);
        due.is("trap(3, 0)", x.trap(3, 0), 0);
        due.is("trap(6, 1)", x.trap(6, 1), 0);
        // Place 1 only fills, place 0 only empties.
        TokenNets y = Due.net("p3;p5;m<0>1");
        due.is("trap(3, 0)", y.trap(3, 0), 3);
        due.is("trap(2, 0)", y.trap(2, 0), 2);
        due.is("trap(2, 2)", y.trap(2, 2), 5);
        due.is("trap(1, 0)", y.trap(1, 0), 0);
        due.is("trap(1, 1)", y.trap(1, 1), 1);
        due.is("trap(1, 3)", y.trap(1, 3), 3);
        due.is("trap(2, 1)", y.trap(2, 1), 0);
        due.is("trap(3, 3)", y.trap(3, 3), 8);
        // A move that gives nothing back drops all places that it takes from, one after the other.
        TokenNets z = Due.net("p1;p1;p1;p1;m<3;m<2>3;m<1>2;m<0>1");
        due.is("trap(15, 0)", z.trap(15, 0), 0);
        due.is("trap(15, 1)", z.trap(15, 1), 15);
        due.is("trap(0, 0)", z.trap(0, 0), 0);
        due.is("trap(0, 3)", z.trap(0, 3), 0);
        due.is("trap(16, 0)", z.trap(16, 0), -1);
        due.is("trap(16, 9)", z.trap(16, 9), -1);
        due.is("trap(-1, 0)", z.trap(-1, 0), -1);
        due.is("trap(least int, 0)", z.trap(Integer.MIN_VALUE, 0), -1);
        due.is("trap(15, 4)", z.trap(15, 4), -2);
        due.is("trap(15, -1)", z.trap(15, -1), -2);
        TokenNets eight = Due.net("p1;p1;p1;p1;p1;p1;p1;p1;m<0>7");
        due.is("trap(255, 0)", eight.trap(255, 0), 255);
        due.is("trap(127, 0)", eight.trap(127, 0), 126);
        due.is("trap(127, 2)", eight.trap(127, 2), 6);
        due.is("trap(254, 1)", eight.trap(254, 1), 126);
        due.is("trap(254, 3)", eight.trap(254, 3), 6);
        due.is("trap(129, 3)", eight.trap(129, 3), 2);
        due.is("trap(128, 3)", eight.trap(128, 3), 0);
        due.is("trap(128, 2)", eight.trap(128, 2), 1);
        due.is("trap(256, 0)", eight.trap(256, 0), -1);
    }

    public static void main(String[] args) {
        kept();
        keptErrors();
        trap();
        Due.end();
    }
}
