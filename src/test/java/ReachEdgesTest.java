/** The edges that the terms of reached markings and growth and promises 17 to 20 name, a method for each. */
public final class ReachEdgesTest {
    private static void growth(Due due, TokenNets x, int nodes, int endless, int moves, int deepest) {
        due.is("growth(0)", x.growth(0), nodes);
        due.is("growth(1)", x.growth(1), endless);
        due.is("growth(2)", x.growth(2), moves);
        due.is("growth(3)", x.growth(3), deepest);
    }

    private static void reached(Due due, TokenNets x, int markings, int dead, int moves) {
        due.is("reached(0)", x.reached(0), markings);
        due.is("reached(1)", x.reached(1), dead);
        due.is("reached(2)", x.reached(2), moves);
    }

    /** Tokens of 99999 and 1; the move 0 gives 9 to the place 0, and the move 1 has no arcs yet. */
    private static TokenNets filled() {
        TokenNets x = Due.net("p999;p1;m>0*9");
        for (int i = 0; i < 112; i++) {
            x.run(i, i < 111 ? 99 : 11);
        }
        x.move();
        return x;
    }

    // ---- reached markings

    private static void theMarkingOfNowIsOne() {
        Due due = new Due("reached markings, that of now");
        TokenNets x = new TokenNets();
        reached(due, x, 1, 1, 0);
        x.place(5);
        reached(due, x, 1, 1, 0);
        due.is("fewest(0, 5)", x.fewest(0, 5), 0);
        x.move();
        reached(due, x, 1, 0, 1);
        x.arc(0, 0, 5, 5);
        reached(due, x, 1, 0, 1);
        x.arc(0, 0, 6, 5);
        reached(due, x, 1, 1, 0);
    }

    private static void just300Markings() {
        Due due = new Due("reached markings, 300 are told");
        TokenNets x = Due.net("p299;p0;m<0");
        reached(due, x, 300, 1, 1);
        due.is("fewest(0, 299)", x.fewest(0, 299), 0);
        due.is("fewest(0, 300)", x.fewest(0, 300), -6);
        due.is("fewest(0, 0)", x.fewest(0, 0), 0);
        x.arc(0, 1, 0, 1);
        due.is("fewest(1, 299), by the longest way", x.fewest(1, 299), 299);
        due.is("fewest(1, 300)", x.fewest(1, 300), -6);
    }

    private static void oneMoreThan300Markings() {
        Due due = new Due("reached markings, more than 300 are not told");
        TokenNets x = Due.net("p300;p0;m<0>1");
        reached(due, x, -4, -4, -4);
        due.is("fewest(0, 0)", x.fewest(0, 0), -4);
        due.is("fewest(0, 300)", x.fewest(0, 300), -4);
        due.is("fewest(1, 1)", x.fewest(1, 1), -4);
        due.is("fewest(1, 9999)", x.fewest(1, 9999), -4);
        due.is("make(0)", x.make(0), 1);
        reached(due, x, 300, 1, 1);
    }

    /** Fifteen by twenty markings, and one that only the last move leads to. */
    private static void the301stBySideways() {
        Due due = new Due("reached markings, 300 of two places and one more");
        TokenNets x = Due.net("p14;p19;p0;m<0;m<1");
        reached(due, x, 300, 1, 3);
        x.move();
        reached(due, x, 300, 0, 7);
        x.undo();
        x.place(1);
        Due.write(x, "m<3>2");
        due.is("carryOut()", x.carryOut(), 1);
        due.is("reached(0)", x.reached(0), -4);
        x.tokens(3, 0);
        reached(due, x, 300, 1, 3);
    }

    private static void aMarkingReachedAgainIsOne() {
        Due due = new Due("reached markings, each is one");
        TokenNets x = Due.net("p2;p0;m<0>1;m<0>1;m<1>0");
        reached(due, x, 3, 0, 7);
        TokenNets y = Due.net("p2;p2;m<0;m<1");
        reached(due, y, 9, 1, 3);
    }

    private static void theMostTokensBoundThem() {
        Due due = new Due("reached markings, no more than 99999 tokens");
        TokenNets x = filled();
        due.is("ofPlace(0, 0)", x.ofPlace(0, 0), 99999);
        // The move 1 takes from the place 1 and gives to the place 0, which is full.
        x.arc(1, 1, 1, 0);
        x.arc(1, 0, 0, 1);
        reached(due, x, 1, 1, 0);
        x.arc(1, 0, 1, 1);
        reached(due, x, 2, 1, 2);
        x.arc(1, 0, 2, 1);
        x.arc(0, 0, 0, 1);
        // The place 0 loses one, and the move 0 gives it back.
        reached(due, x, 3, 1, 3);
    }

    private static void markingsWithoutAMove() {
        Due due = new Due("promise 17, in how many no move can be made");
        TokenNets x = Due.net("p3;p0;p0;m<0>1;m<0>2");
        reached(due, x, 10, 4, 3);
        x.move();
        reached(due, x, 10, 0, 7);
        x.arc(2, 0, 3, 3);
        reached(due, x, 10, 4, 7);
        x.arc(2, 0, 4, 4);
        reached(due, x, 10, 4, 3);
    }

    private static void whatOfReached() {
        Due due = new Due("promise 17, what from 0 to 2");
        TokenNets x = new TokenNets();
        due.is("reached(-1)", x.reached(-1), -2);
        due.is("reached(0)", x.reached(0), 1);
        due.is("reached(2)", x.reached(2), 0);
        due.is("reached(3)", x.reached(3), -2);
        TokenNets vast = Due.net("p0;m>0");
        due.is("reached(-1) of too many", vast.reached(-1), -2);
        due.is("reached(3) of too many", vast.reached(3), -2);
    }

    // ---- promise 18

    private static void fewestOfNoTokens() {
        Due due = new Due("promise 18, tokens 0 to 9999");
        TokenNets x = Due.net("p0;m<0");
        due.is("fewest(0, 0)", x.fewest(0, 0), 0);
        due.is("fewest(0, 1)", x.fewest(0, 1), -6);
        due.is("fewest(0, 9999)", x.fewest(0, 9999), -6);
        due.is("fewest(0, 10000)", x.fewest(0, 10000), -2);
        due.is("fewest(0, -1)", x.fewest(0, -1), -2);
        due.is("fewest(1, 0)", x.fewest(1, 0), -1);
    }

    private static void fewestOf9999Tokens() {
        Due due = new Due("promise 18, 9999 tokens that are there");
        TokenNets x = Due.net("p999;m>0*9");
        for (int i = 0; i < 10; i++) {
            x.run(i, 99);
        }
        for (int i = 0; i < 10; i++) {
            x.make(0);
        }
        due.is("ofPlace(0, 0)", x.ofPlace(0, 0), 9999);
        due.is("fewest(0, 9999) of too many", x.fewest(0, 9999), -4);
        x.arc(0, 0, 9, 0);
        x.tokens(0, 999);
        due.is("fewest(0, 9999)", x.fewest(0, 9999), -6);
        x.undo();
        // From 9999 down there are 1112 markings, so no move may lead away.
        x.arc(0, 0, 9, 9);
        due.is("fewest(0, 9999)", x.fewest(0, 9999), 0);
        due.is("fewest(0, 10000)", x.fewest(0, 10000), -2);
        x.arc(0, 0, 1, 0);
        x.make(0);
        x.arc(0, 0, 0, 0);
        due.is("fewest(0, 9999) of 9998", x.fewest(0, 9999), -6);
        due.is("fewest(0, 9998) of 9998", x.fewest(0, 9998), 0);
    }

    private static void atLeastSoMany() {
        Due due = new Due("promise 18, at least so many tokens");
        TokenNets x = Due.net("p4;p0;m<0>1*3");
        for (int tokens = 0; tokens <= 12; tokens++) {
            due.is("fewest(1, " + tokens + ")", x.fewest(1, tokens), (tokens + 2) / 3);
        }
        due.is("fewest(1, 13)", x.fewest(1, 13), -6);
        for (int tokens = 0; tokens <= 4; tokens++) {
            due.is("fewest(0, " + tokens + ")", x.fewest(0, tokens), 0);
        }
        due.is("fewest(0, 5)", x.fewest(0, 5), -6);
    }

    private static void theShorterWay() {
        Due due = new Due("promise 18, the fewest moves");
        TokenNets x = Due.net("p6;p0;p0;m<0>1;m<1>2;m<0*6>2*2");
        due.is("fewest(2, 1), by one great move", x.fewest(2, 1), 1);
        due.is("fewest(2, 2), by one great move", x.fewest(2, 2), 1);
        due.is("fewest(2, 3), by six small ones", x.fewest(2, 3), 6);
        due.is("fewest(2, 6)", x.fewest(2, 6), 12);
    }

    // ---- growth

    private static void theTopAlone() {
        Due due = new Due("growth, the top alone");
        TokenNets x = new TokenNets();
        growth(due, x, 1, 0, 0, 0);
        x.place(999);
        growth(due, x, 1, 0, 0, 0);
        due.is("bound(0)", x.bound(0), 999);
        Due.write(x, "=0:8;m<0*9");
        x.carryOut();
        growth(due, x, 1, 0, 0, 0);
        due.is("bound(0)", x.bound(0), 8);
    }

    private static void justTheSameAbove() {
        Due due = new Due("growth, no children below just the same");
        // The second node is the same as the top, and so has no children.
        growth(due, Due.net("p1;m<0>0"), 2, 0, 1, 1);
        growth(due, Due.net("p1;p0;m<0>1;m<1>0"), 3, 0, 3, 2);
        growth(due, Due.net("m"), 2, 0, 1, 1);
        growth(due, Due.net("m;m;m;m;m;m;m;m"), 9, 0, 255, 1);
        // The same as a node between: 2 -> 1,1 -> 0,2 -> 1,1.
        growth(due, Due.net("p2;p0;m<0>1;m<1*2>0,1"), 4, 0, 3, 3);
    }

    private static void theSameOnAnotherWay() {
        Due due = new Due("growth, the same on another way down is another node");
        growth(due, Due.net("p2;m<0;m<0"), 7, 0, 3, 2);
        growth(due, Due.net("p2;p2;m<0;m<1"), 19, 0, 3, 4);
    }

    private static void moreThanANodeAbove() {
        Due due = new Due("growth, at most as many in each and fewer in some");
        TokenNets x = Due.net("p1;p5;m<0>0*2");
        growth(due, x, 3, 1, 1, 2);
        due.is("bound(0)", x.bound(0), -6);
        due.is("bound(1), which has just as many", x.bound(1), 5);
        // More in one place but fewer in the other one.
        TokenNets y = Due.net("p1;p5;m<1>0");
        growth(due, y, 6, 0, 1, 5);
        due.is("bound(0)", y.bound(0), 6);
        due.is("bound(1)", y.bound(1), 5);
        // More in both places.
        growth(due, Due.net("p1;p5;m>0,1*9"), 3, 3, 1, 2);
        // Fewer in both.
        growth(due, Due.net("p3;p3;m<0,1"), 4, 0, 1, 3);
    }

    /** It is the node between, not the top, that the last one has more than. */
    private static void moreThanANodeBetween() {
        Due due = new Due("growth, a node above that is not the top");
        // 5,0 -> 0,1 -> 0,2: the top has more on the place 0.
        TokenNets x = Due.net("p5;p0;m<0*5>1;m<1>1*2");
        growth(due, x, 4, 2, 3, 3);
        due.is("bound(0)", x.bound(0), 5);
        due.is("bound(1)", x.bound(1), -6);
    }

    private static void endlessStaysEndless() {
        Due due = new Due("growth, an endless place has enough for each and stays endless");
        TokenNets x = Due.net("p0;m>0;m<0*9");
        growth(due, x, 4, 1, 3, 2);
        TokenNets y = Due.net("p0;m>0;m<0*9;m<0*9>0*8;m<0>0*9");
        growth(due, y, 6, 1, 15, 2);
        due.is("bound(0)", y.bound(0), -6);
    }

    /** 0,1 -> 5,0 -> 1,1: only since the top makes the place 0 endless, 5,0 has at most as many. */
    private static void asItIsByThen() {
        Due due = new Due("growth, from the top downwards, with the child as it is by then");
        TokenNets x = Due.net("p0;p1;m<1>0*5;m<0*4>1");
        growth(due, x, 5, 3, 3, 3);
        due.is("bound(1)", x.bound(1), -6);
    }

    /** 5,0 -> 0,1 -> 1,1: the place 0 becomes endless by 0,1, and the top is not asked again. */
    private static void theTopIsAskedFirst() {
        Due due = new Due("growth, from the top downwards, each asked once");
        TokenNets x = Due.net("p5;p0;m<0*5>1;m<1>0,1");
        growth(due, x, 9, 3, 3, 4);
    }

    private static void the99999DoNotMatter() {
        Due due = new Due("growth, the bound of 99999 does not matter");
        TokenNets x = filled();
        x.arc(0, 0, 0, 0);
        x.arc(0, 1, 2, 2);
        x.arc(1, 0, 0, 9);
        x.arc(1, 1, 1, 0);
        due.is("count(3)", x.count(3), 0);
        growth(due, x, 2, 0, 2, 1);
        due.is("bound(0)", x.bound(0), 100008);
        due.is("bound(1)", x.bound(1), 1);
        x.arc(0, 0, 0, 1);
        x.arc(0, 1, 0, 0);
        due.is("count(3)", x.count(3), 0);
        due.is("growth(1)", x.growth(1), 1);
        due.is("growth(2)", x.growth(2), 3);
        due.is("bound(0)", x.bound(0), -6);
    }

    private static void just300Nodes() {
        Due due = new Due("growth, 300 nodes are told");
        TokenNets x = Due.net("p299;p0;m<0");
        growth(due, x, 300, 0, 1, 299);
        due.is("bound(0)", x.bound(0), 299);
        x.arc(0, 1, 0, 1);
        due.is("bound(1), in the last node", x.bound(1), 299);
        x.tokens(0, 298);
        growth(due, x, 299, 0, 1, 298);
        // 154 on the way down, and a second move leads from 146 of them to just the same.
        growth(due, Due.net("p153;m<0;m<0*8>0*8"), 300, 0, 3, 153);
    }

    private static void oneMoreThan300Nodes() {
        Due due = new Due("growth, more than 300 nodes are not told");
        TokenNets x = Due.net("p300;p0;m<0;m<1");
        growth(due, x, -4, -4, -4, -4);
        due.is("bound(0)", x.bound(0), -4);
        due.is("bound(1)", x.bound(1), -4);
        due.is("growth(4)", x.growth(4), -2);
        due.is("growth(-1)", x.growth(-1), -2);
        due.is("bound(2)", x.bound(2), -1);
        due.is("bound(-1)", x.bound(-1), -1);
        x.make(0);
        growth(due, x, 300, 0, 1, 299);
        // 155 on the way down, and 146 that are just the same as the ones above them.
        TokenNets y = Due.net("p154;m<0;m<0*9>0*9");
        growth(due, y, -4, -4, -4, -4);
        y.tokens(0, 153);
        growth(due, y, 299, 0, 3, 153);
    }

    private static void oneNodeMoreBesides() {
        Due due = new Due("growth, the 301st node is of another move");
        TokenNets x = Due.net("p299;p1;m<0");
        due.is("growth(0)", x.growth(0), 300);
        x.move();
        x.arc(1, 0, 9, 9);
        x.arc(1, 1, 1, 1);
        due.is("growth(0) with a second move", x.growth(0), -4);
        x.tokens(1, 0);
        due.is("growth(0), it cannot be made", x.growth(0), 300);
    }

    // ---- promise 20

    private static void boundOfEachPlace() {
        Due due = new Due("promise 20, the most tokens, or NONE");
        TokenNets x = Due.net("p0;p1;p2;p3;p4;p5;p6;p999;m>0;m<7*9>6*9");
        due.is("bound(7) of too many nodes", x.bound(7), -4);
        x.arc(1, 7, 0, 0);
        due.is("bound(0)", x.bound(0), -6);
        due.is("bound(6)", x.bound(6), -6);
        due.is("bound(7)", x.bound(7), 999);
        due.is("bound(8)", x.bound(8), -1);
        x.arc(1, 6, 6, 0);
        x.arc(0, 0, 0, 0);
        for (int p = 0; p < 7; p++) {
            due.is("bound(" + p + ")", x.bound(p), p);
        }
        due.is("bound(7)", x.bound(7), 999);
        due.is("growth(1)", x.growth(1), 0);
    }

    private static void nothingChangesByAsking() {
        Due due = new Due("promises 17 to 20, nothing changes");
        TokenNets x = Due.net("p3;p0;m<0>1*2;m<1>1*2");
        String before = Answers.brief(x);
        x.reached(0);
        x.growth(0);
        x.fewest(1, 9);
        x.bound(1);
        due.is("what there is", before.equals(Answers.brief(x)) ? 0 : 1, 0);
        due.is("ofPlace(1, 3)", x.ofPlace(1, 3), 0);
        due.is("undo()", x.undo(), 0);
    }

    /** Each arc and each place's tokens alone make it another net, of which all is asked anew. */
    private static void askedAnewAfterEachChange() {
        for (int m = 0; m < 8; m++) {
            Due due = new Due("promises 17 to 20, after each change, the move " + m);
            TokenNets x = Due.net("p1;p1;p1;p1;p1;p1;p1;p1;m;m;m;m;m;m;m;m");
            for (int p = 0; p < 8; p++) {
                due.is("reached(0) without arcs", x.reached(0), 1);
                due.is("growth(0) without arcs", x.growth(0), 9);
                x.arc(m, p, 0, 1);
                due.is("reached(0) as it gives to " + p, x.reached(0), -4);
                due.is("growth(1) as it gives to " + p, x.growth(1), 1 << p);
                x.arc(m, p, 1, 1);
                due.is("reached(0) as it takes and gives", x.reached(0), 1);
                due.is("growth(1) as it takes and gives", x.growth(1), 0);
                x.arc(m, p, 1, 0);
                due.is("reached(0) as it takes from " + p, x.reached(0), 2);
                due.is("growth(0) as it takes from " + p, x.growth(0), 16);
                x.arc(m, p, 1, 1);
                due.is("reached(0) as it takes and gives again", x.reached(0), 1);
                due.is("growth(0) as it takes and gives again", x.growth(0), 9);
                x.arc(m, p, 1, 0);
                x.tokens(p, 0);
                due.is("reached(2) without tokens on " + p, x.reached(2), 255 - (1 << m));
                due.is("growth(0) without tokens on " + p, x.growth(0), 8);
                due.is("bound(p)", x.bound(p), 0);
                due.is("fewest(p, 1)", x.fewest(p, 1), -6);
                x.tokens(p, 1);
                due.is("fewest(p, 1)", x.fewest(p, 1), 0);
                x.arc(m, p, 0, 0);
            }
        }
    }

    /** Each place has other tokens then, but the arcs are the same. */
    private static void askedAnewAfterAMove() {
        Due due = new Due("promises 17 to 20, after a move of all places");
        TokenNets x = Due.net("p3;p3;p3;p3;p3;p3;p3;p3;m<0,1,2,3,4,5,6,7");
        for (int left = 3; left >= 0; left--) {
            due.is("reached(0) with " + left, x.reached(0), left + 1);
            due.is("growth(3) with " + left, x.growth(3), left);
            due.is("bound(7) with " + left, x.bound(7), left);
            due.is("fewest(7, 3) with " + left, x.fewest(7, 3), left == 3 ? 0 : -6);
            x.make(0);
        }
        x.undo();
        due.is("bound(7) after undo", x.bound(7), 1);
    }

    private static void askedAnewAfterPlacesAndMovesCome() {
        Due due = new Due("promises 17 to 20, after places and moves come");
        TokenNets x = new TokenNets();
        for (int p = 0; p < 8; p++) {
            x.place(0);
            due.is("bound(" + p + ")", x.bound(p), 0);
            due.is("fewest(" + p + ", 0)", x.fewest(p, 0), 0);
        }
        for (int m = 0; m < 8; m++) {
            x.move();
            due.is("growth(0)", x.growth(0), m + 2);
            due.is("reached(2)", x.reached(2), (2 << m) - 1);
        }
        x.undo();
        due.is("growth(0) after undo", x.growth(0), 8);
        due.is("reached(2) after undo", x.reached(2), 127);
    }

    public static void main(String[] args) {
        theMarkingOfNowIsOne();
        just300Markings();
        oneMoreThan300Markings();
        the301stBySideways();
        aMarkingReachedAgainIsOne();
        theMostTokensBoundThem();
        markingsWithoutAMove();
        whatOfReached();
        fewestOfNoTokens();
        fewestOf9999Tokens();
        atLeastSoMany();
        theShorterWay();
        theTopAlone();
        justTheSameAbove();
        theSameOnAnotherWay();
        moreThanANodeAbove();
        moreThanANodeBetween();
        endlessStaysEndless();
        asItIsByThen();
        theTopIsAskedFirst();
        the99999DoNotMatter();
        just300Nodes();
        oneMoreThan300Nodes();
        oneNodeMoreBesides();
        boundOfEachPlace();
        nothingChangesByAsking();
        askedAnewAfterEachChange();
        askedAnewAfterAMove();
        askedAnewAfterPlacesAndMovesCome();
        Due.end();
    }
}
