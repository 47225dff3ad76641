/** Promises 17 to 20: what can be reached. */
public final class ReachTest {
    private static void reached() {
        Due due = new Due("promise 17");
        TokenNets x = Due.net("p2;p0;m<0>1;m<1*2>0*2;m<0*3");
        due.is("reached(0)", x.reached(0), 3);
        due.is("reached(1)", x.reached(1), 0);
        due.is("reached(2)", x.reached(2), 3);
        due.is("reached(3)", x.reached(3), -2);
        due.is("reached(-1)", x.reached(-1), -2);
        due.is("arc(1, 0, 0, 0)", x.arc(1, 0, 0, 0), 2);
        due.is("reached(0)", x.reached(0), 4);
        due.is("reached(1)", x.reached(1), 1);
        TokenNets nothing = new TokenNets();
        due.is("reached(0) of nothing", nothing.reached(0), 1);
        due.is("reached(1) of nothing", nothing.reached(1), 1);
        nothing.move();
        due.is("reached(1) of a move alone", nothing.reached(1), 0);
        due.is("reached(2) of a move alone", nothing.reached(2), 1);
        // From 299 tokens down to none: exactly 300 markings.
        TokenNets y = Due.net("p299;m<0");
        due.is("reached(0)", y.reached(0), 300);
        due.is("reached(1)", y.reached(1), 1);
        due.is("reached(2)", y.reached(2), 1);
        y.tokens(0, 300);
        due.is("reached(0), one more", y.reached(0), -4);
        due.is("reached(1), one more", y.reached(1), -4);
        due.is("reached(2), one more", y.reached(2), -4);
        due.is("reached(3), one more", y.reached(3), -2);
        y.make(0);
        due.is("reached(0)", y.reached(0), 300);
        y.make(0);
        due.is("reached(0)", y.reached(0), 299);
        y.undo();
        due.is("reached(0) after undo", y.reached(0), 300);
        due.is("count(4), nothing was made by it", y.count(4), 1);
        // Three tokens in a ring of eight: 120 markings; four of them: 330.
        TokenNets ring = Due.net("p3;p0;p0;p0;p0;p0;p0;p0;m<0>1;m<1>2;m<2>3;m<3>4;m<4>5;m<5>6;m<6>7;m<7>0");
        due.is("reached(0) of a ring", ring.reached(0), 120);
        due.is("reached(1) of a ring", ring.reached(1), 0);
        due.is("reached(2) of a ring", ring.reached(2), 255);
        due.is("fewest(7, 3)", ring.fewest(7, 3), 21);
        due.is("fewest(7, 1)", ring.fewest(7, 1), 7);
        ring.tokens(0, 4);
        due.is("reached(0) of a full ring", ring.reached(0), -4);
    }

    /** Places that empty on their own: as many markings as the product tells, with very different tokens. */
    private static void products() {
        Due due = new Due("promise 17, products");
        for (int first = 1; first < 18; first++) {
            for (int takes = 1; takes <= 9; takes++) {
                int second = 300 / (first + 1) - 1;
                TokenNets x = new TokenNets();
                x.place(first * takes);
                x.place(second);
                x.place(999 - 50 * takes);
                x.place(0);
                x.move();
                x.move();
                x.arc(0, 0, takes, 0);
                x.arc(1, 1, 1, 0);
                x.arc(1, 3, 0, takes);
                int all = (first + 1) * (second + 1);
                due.is("reached(0) of " + first + " and " + second, x.reached(0), all);
                due.is("reached(1)", x.reached(1), 1);
                due.is("fewest(3, all)", x.fewest(3, second * takes), second);
                x.place(1);
                x.move();
                x.arc(2, 4, 1, 0);
                due.is("reached(0), twice as many", x.reached(0), 2 * all > 300 ? -4 : 2 * all);
            }
        }
    }

    /** Pairs of places that hand tokens to and fro: each marking is met again and again. */
    private static void pairs() {
        Due due = new Due("promise 17, pairs");
        for (int one = 1; one < 17; one++) {
            for (int step = 1; step <= 9; step++) {
                int[] many = {one, 300 / (one + 1) / 2 - 1, 1};
                TokenNets x = new TokenNets();
                int all = 1;
                for (int i = 0; i < 3; i++) {
                    int takes = i == 0 ? step : 10 - step;
                    x.place(many[i] * takes);
                    // Fewer than a step, so that they stay.
                    x.place(step - 1);
                    x.move();
                    x.move();
                    x.arc(2 * i, 2 * i, takes, 0);
                    x.arc(2 * i, 2 * i + 1, 0, step);
                    x.arc(2 * i + 1, 2 * i, 0, takes);
                    x.arc(2 * i + 1, 2 * i + 1, step, 0);
                    all *= many[i] + 1;
                }
                due.is("reached(0) of " + one + " by " + step, x.reached(0), all);
                due.is("reached(1)", x.reached(1), 0);
                due.is("reached(2)", x.reached(2), 63);
            }
        }
    }

    private static void fewest() {
        Due due = new Due("promise 18");
        TokenNets x = Due.net("p5;p0;p0;m<0>1;m<1>2;m<0*3>2*2");
        due.is("fewest(0, 5)", x.fewest(0, 5), 0);
        due.is("fewest(0, 0)", x.fewest(0, 0), 0);
        due.is("fewest(0, 6)", x.fewest(0, 6), -6);
        due.is("fewest(1, 5)", x.fewest(1, 5), 5);
        due.is("fewest(2, 1)", x.fewest(2, 1), 1);
        due.is("fewest(2, 2)", x.fewest(2, 2), 1);
        due.is("fewest(2, 3)", x.fewest(2, 3), 3);
        due.is("fewest(2, 4)", x.fewest(2, 4), 5);
        due.is("fewest(2, 5)", x.fewest(2, 5), 10);
        due.is("fewest(2, 9999)", x.fewest(2, 9999), -6);
        due.is("fewest(2, 10000)", x.fewest(2, 10000), -2);
        due.is("fewest(2, -1)", x.fewest(2, -1), -2);
        due.is("fewest(3, -1)", x.fewest(3, -1), -1);
        due.is("fewest(-1, 0)", x.fewest(-1, 0), -1);
        x.move();
        x.arc(3, 0, 0, 1);
        due.is("fewest(0, 0) of too many", x.fewest(0, 0), -4);
        due.is("fewest(0, 10000) of too many", x.fewest(0, 10000), -2);
        due.is("fewest(9, 0) of too many", x.fewest(9, 0), -1);
    }

    private static void growth() {
        Due due = new Due("promise 19");
        TokenNets nothing = new TokenNets();
        due.is("growth(0) of nothing", nothing.growth(0), 1);
        due.is("growth(1) of nothing", nothing.growth(1), 0);
        nothing.move();
        nothing.move();
        // Both children are just the same as the top, and nowhere more.
        due.is("growth(0) of two moves", nothing.growth(0), 3);
        due.is("growth(2) of two moves", nothing.growth(2), 3);
        due.is("growth(3) of two moves", nothing.growth(3), 1);
        due.is("growth(4)", nothing.growth(4), -2);
        due.is("growth(-1)", nothing.growth(-1), -2);
        TokenNets x = Due.net("p0;m>0");
        due.is("growth(0)", x.growth(0), 3);
        due.is("growth(1)", x.growth(1), 1);
        due.is("growth(2)", x.growth(2), 1);
        due.is("growth(3)", x.growth(3), 2);
        // (1,0) -> (0,1) -> (1,endless), from there (0,endless) -> (1,endless) once more.
        TokenNets y = Due.net("p1;p0;p0;m<0>1;m<1>0,2;m<2*9");
        due.is("growth(1)", y.growth(1), 4);
        due.is("growth(2)", y.growth(2), 7);
        due.is("bound(0)", y.bound(0), 1);
        due.is("bound(2)", y.bound(2), -6);
        // A chain of exactly 300 nodes, and one of 301.
        TokenNets z = Due.net("p299;m<0");
        due.is("growth(0)", z.growth(0), 300);
        due.is("growth(1)", z.growth(1), 0);
        due.is("growth(2)", z.growth(2), 1);
        due.is("growth(3)", z.growth(3), 299);
        due.is("bound(0)", z.bound(0), 299);
        z.tokens(0, 300);
        for (int what = 0; what <= 3; what++) {
            due.is("growth(" + what + "), one more", z.growth(what), -4);
        }
        due.is("growth(4), one more", z.growth(4), -2);
        due.is("bound(0), one more", z.bound(0), -4);
        due.is("bound(1), one more", z.bound(1), -1);
        // A move that can never be made is in no node.
        TokenNets dead = Due.net("p1;p0;m<0>0;m<1>0*9");
        due.is("growth(2)", dead.growth(2), 1);
        due.is("growth(0)", dead.growth(0), 2);
        // Fewer in one place and more in another one is no growth.
        TokenNets trade = Due.net("p2;p0;m<0>1*2");
        due.is("growth(0)", trade.growth(0), 3);
        due.is("growth(1)", trade.growth(1), 0);
        due.is("bound(1)", trade.bound(1), 4);
    }

    private static void bound() {
        Due due = new Due("promise 20");
        TokenNets x = Due.net("p3;p0;p7;m<0>1*2;m<1*6>0");
        due.is("bound(0)", x.bound(0), 3);
        due.is("bound(1)", x.bound(1), 6);
        due.is("bound(2)", x.bound(2), 7);
        due.is("bound(3)", x.bound(3), -1);
        due.is("bound(-1)", x.bound(-1), -1);
        x.arc(1, 2, 0, 1);
        due.is("bound(2)", x.bound(2), 8);
        x.arc(1, 0, 0, 3);
        due.is("bound(2), which grows", x.bound(2), -6);
        due.is("bound(0), which does not", x.bound(0), 3);
        x.undo();
        due.is("bound(2) after undo", x.bound(2), 8);
        due.is("tokens(2, 999)", x.tokens(2, 999), 7);
        due.is("bound(2)", x.bound(2), 1000);
    }

    public static void main(String[] args) {
        reached();
        products();
        pairs();
        fewest();
        growth();
        bound();
        Due.end();
    }
}
