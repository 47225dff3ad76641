/** Promises 8 to 13: what there is. */
public final class LooksTest {
    private static void ofPlace() {
        Due due = new Due("promise 8");
        TokenNets x = Due.net("p3;p1;m<0>1*2;m<0,1;m>0;!0");
        due.is("ofPlace(0, 0)", x.ofPlace(0, 0), 2);
        due.is("ofPlace(0, 1)", x.ofPlace(0, 1), 3);
        due.is("ofPlace(0, 2)", x.ofPlace(0, 2), 4);
        due.is("ofPlace(0, 3)", x.ofPlace(0, 3), 3);
        due.is("ofPlace(1, 0)", x.ofPlace(1, 0), 3);
        due.is("ofPlace(1, 1)", x.ofPlace(1, 1), 2);
        due.is("ofPlace(1, 2)", x.ofPlace(1, 2), 1);
        due.is("ofPlace(1, 3)", x.ofPlace(1, 3), 3);
        due.is("make(1)", x.make(1), 3);
        due.is("ofPlace(1, 3)", x.ofPlace(1, 3), 3);
        due.is("ofPlace(2, 0)", x.ofPlace(2, 0), -1);
        due.is("ofPlace(-1, 9)", x.ofPlace(-1, 9), -1);
        due.is("ofPlace(0, 4)", x.ofPlace(0, 4), -2);
        due.is("ofPlace(0, -1)", x.ofPlace(0, -1), -2);
    }

    private static void ofMove() {
        Due due = new Due("promise 9");
        TokenNets x = Due.net("p3;p1;m<0*9>1*2;m<0,1;m>0*9,1*9;!1");
        due.is("ofMove(0, 0)", x.ofMove(0, 0), 0);
        due.is("ofMove(1, 0)", x.ofMove(1, 0), 0);
        due.is("ofMove(2, 0)", x.ofMove(2, 0), 1);
        due.is("ofMove(0, 1)", x.ofMove(0, 1), 0);
        due.is("ofMove(1, 1)", x.ofMove(1, 1), 1);
        due.is("ofMove(0, 2)", x.ofMove(0, 2), 1);
        due.is("ofMove(0, 3)", x.ofMove(0, 3), 2);
        due.is("ofMove(1, 2)", x.ofMove(1, 2), 3);
        due.is("ofMove(2, 3)", x.ofMove(2, 3), 3);
        due.is("ofMove(0, 4)", x.ofMove(0, 4), 93);
        due.is("ofMove(1, 4)", x.ofMove(1, 4), 98);
        due.is("ofMove(2, 4)", x.ofMove(2, 4), 118);
        due.is("ofMove(3, 0)", x.ofMove(3, 0), -1);
        due.is("ofMove(-1, 9)", x.ofMove(-1, 9), -1);
        due.is("ofMove(0, 5)", x.ofMove(0, 5), -2);
        due.is("ofMove(0, -1)", x.ofMove(0, -1), -2);
    }

    private static void ofArc() {
        Due due = new Due("promise 10");
        TokenNets x = Due.net("p3;p1;m<0*9>1*2;m<1");
        due.is("ofArc(0, 0, 0)", x.ofArc(0, 0, 0), 9);
        due.is("ofArc(0, 0, 1)", x.ofArc(0, 0, 1), 0);
        due.is("ofArc(0, 1, 1)", x.ofArc(0, 1, 1), 2);
        due.is("ofArc(1, 1, 0)", x.ofArc(1, 1, 0), 1);
        due.is("ofArc(1, 0, 0)", x.ofArc(1, 0, 0), 0);
        due.is("ofArc(2, 0, 0)", x.ofArc(2, 0, 0), -1);
        due.is("ofArc(0, 2, 9)", x.ofArc(0, 2, 9), -1);
        due.is("ofArc(-1, 0, 0)", x.ofArc(-1, 0, 0), -1);
        due.is("ofArc(0, -1, 0)", x.ofArc(0, -1, 0), -1);
        due.is("ofArc(0, 0, 2)", x.ofArc(0, 0, 2), -2);
        due.is("ofArc(0, 0, -1)", x.ofArc(0, 0, -1), -2);
    }

    private static void count() {
        Due due = new Due("promise 11");
        TokenNets x = Due.net("p3;p1;p7;m<0*9>1*2;m<0,1;m>0*9,1*9;!1;!2");
        Due.write(x, "what");
        due.is("count(0)", x.count(0), 3);
        due.is("count(1)", x.count(1), 3);
        due.is("count(2)", x.count(2), 27);
        due.is("count(3)", x.count(3), 7);
        due.is("count(4)", x.count(4), 2);
        due.is("count(5)", x.count(5), 4);
        due.is("count(6)", x.count(6), 1);
        due.is("make(0)", x.make(0), 2);
        due.is("count(3)", x.count(3), 6);
        due.is("count(4)", x.count(4), 3);
        due.is("count(6)", x.count(6), 2);
        due.is("count(7)", x.count(7), -2);
        due.is("count(-1)", x.count(-1), -2);
    }

    private static void share() {
        Due due = new Due("promise 12");
        TokenNets x = Due.net("p0;m>0;m>0;m");
        due.is("share(0) before any", x.share(0), -6);
        due.is("share(3)", x.share(3), -1);
        due.is("share(-1)", x.share(-1), -1);
        x.make(0);
        due.is("share(0)", x.share(0), 0x3f800000);
        due.is("share(1)", x.share(1), 0);
        due.is("share(3)", x.share(3), -1);
        int[] made = {1, 0};
        for (int i = 0; i < 240; i++) {
            int move = i % 7 == 3 ? 0 : 1;
            x.make(move);
            made[move]++;
            for (int m = 0; m < 2 && i < 120; m++) {
                float share = (float) ((double) made[m] / (made[0] + made[1]));
                due.is("share of " + made[m], x.share(m), Float.floatToIntBits(share));
            }
        }
        // One of very many, so that the number is small.
        TokenNets y = Due.net("p0;p1;m>0;m<1");
        y.make(1);
        for (int i = 0; i < 400; i++) {
            y.run(i, 99);
        }
        due.is("count(4)", y.count(4), 39601);
        due.is("share(1)", y.share(1), Float.floatToIntBits((float) (1.0 / 39601)));
        due.is("share(0)", y.share(0), Float.floatToIntBits((float) (39600.0 / 39601)));
    }

    private static void mean() {
        Due due = new Due("promise 13");
        TokenNets none = new TokenNets();
        due.is("mean(0) without places", none.mean(0), 0);
        due.is("mean(1) without places", none.mean(1), 0);
        due.is("mean(2) without places", none.mean(2), -2);
        due.is("mean(-1)", none.mean(-1), -2);
        for (int places = 1; places <= 8; places++) {
            TokenNets x = new TokenNets();
            for (int p = 0; p < places; p++) {
                x.place(0);
            }
            due.is("mean(0) without tokens", x.mean(0), 0);
            due.is("mean(1) without tokens", x.mean(1), 0);
            for (int i = 1; i < 150; i++) {
                x.tokens(i % places, i * 37 % 1000);
                double mean = (double) x.count(2) / places;
                due.is("mean(0) of " + x.count(2), x.mean(0), Double.doubleToLongBits(mean));
                due.is("mean(1) of " + x.count(2), x.mean(1), Double.doubleToLongBits(mean % 1.0));
            }
        }
    }

    public static void main(String[] args) {
        ofPlace();
        ofMove();
        ofArc();
        count();
        share();
        mean();
        Due.end();
    }
}
