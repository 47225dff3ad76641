/** The edges that the terms of kept sums, traps and drains and promises 14 to 16 name, a method for each. */
public final class StructureEdgesTest {
    private static void sums(String about, TokenNets x, int[]... want) {
        Due due = new Due("kept sums, " + about);
        due.is("keptMany()", x.keptMany(), want.length);
        for (int s = 0; s < want.length; s++) {
            for (int p = 0; p < want[s].length; p++) {
                due.is("kept(" + s + ", " + p + ")", x.kept(s, p), want[s][p]);
            }
        }
        due.is("kept(-1, 8)", x.kept(-1, 8), -1);
        due.is("kept(" + want.length + ", 8)", x.kept(want.length, 8), -1);
    }

    private static int[] row(int... weights) {
        return weights;
    }

    private static void weightsUpTo3() {
        sums("a weight of 3", Due.net("p0;p0;m<0*3>1"), row(1, 3));
        sums("a weight of 4 is too much", Due.net("p0;p0;m<0*4>1"));
        sums("weights of 3 and 2", Due.net("p0;p0;m<0*2>1*3"), row(3, 2));
        sums("weights of 3 and 4", Due.net("p0;p0;m<0*3>1*4"));
        sums("three times as many, but each divided by 3", Due.net("p0;p0;m<0*9>1*3"), row(1, 3));
        sums("weights of 3 and 3 are divided", Due.net("p0;p0;m<0*3>1*3"), row(1, 1));
    }

    private static void notAllWeightsAre0() {
        sums("no places", new TokenNets());
        sums("moves without places", Due.net("m;m"));
        sums("a place that only loses", Due.net("p5;m<0"));
        sums("a place that only grows", Due.net("p5;m>0"));
        sums("places that lose and grow", Due.net("p5;p5;m<0;m>1"));
    }

    private static void eachMoveKeepsIt() {
        sums("both moves keep it", Due.net("p0;p0;m<0>1;m<1*9>0*9"), row(1, 1));
        sums("the last of eight moves does not", Due.net("p0;p0;m<0>1;m;m;m;m;m;m;m<1*2>0"));
        sums("the first of eight moves does not", Due.net("p0;p0;m<1*2>0;m<0>1;m<0>1;m<0>1;m<0>1;m;m;m"));
        sums("a move that takes what it gives", Due.net("p0;m<0*9>0*9"), row(1));
    }

    private static void withoutMovesEachPlaceAlone() {
        sums("one place", Due.net("p0"), row(1));
        sums("eight places", Due.net("p0;p0;p0;p0;p0;p0;p0;p0"), row(0, 0, 0, 0, 0, 0, 0, 1), row(0, 0, 0, 0, 0, 0, 1, 0),
                row(0, 0, 0, 0, 0, 1, 0, 0), row(0, 0, 0, 0, 1, 0, 0, 0), row(0, 0, 0, 1, 0, 0, 0, 0), row(0, 0, 1, 0, 0, 0, 0, 0),
                row(0, 1, 0, 0, 0, 0, 0, 0), row(1, 0, 0, 0, 0, 0, 0, 0));
    }

    private static void someButNotAllOfItsPlaces() {
        // 1,1,0 and 0,0,1 are smallest, so 1,1,1 is not.
        sums("fewer places", Due.net("p0;p0;p0;m<0>1"), row(0, 0, 1), row(1, 1, 0));
        // 1,1,3 and 1,2,2 have just the same places: neither is less than the other one.
        sums("just the same places", Due.net("p0;p0;p0;m<0*4>1,2"), row(1, 1, 3), row(1, 2, 2), row(1, 3, 1));
        // A sum that a number divides still has fewer places than 2,1,1.
        sums("places of a sum and one more", Due.net("p0;p0;p0;m<0>1*2;m<2>2"), row(0, 0, 1), row(2, 1, 0));
    }

    /**
     * Four of one place and one of a second one for three of a third one: 0,3,1 is kept, and so are 1,2,2 and
     * 2,1,3, which have all three places. Without the second place it would be 3,0,4, which is too much, so only
     * the sum without the first one is less than they are.
     */
    private static void oneOfThreePlacesTooMany() {
        for (int first = 0; first < 8; first++) {
            for (int second = 0; second < 8; second++) {
                int third = (Math.max(first, second) + 1) % 8;
                third = third == first || third == second ? (third + 1) % 8 : third;
                if (first == second || third == first || third == second) {
                    continue;
                }
                TokenNets x = Due.net("p0;p0;p0;p0;p0;p0;p0;p0;m;m;m;m;m;m");
                x.arc(0, first, 4, 0);
                x.arc(0, second, 1, 0);
                x.arc(0, third, 0, 3);
                int move = 1;
                for (int p = 0; p < 8; p++) {
                    if (p != first && p != second && p != third) {
                        x.arc(move, p, 1, 0);
                        move++;
                    }
                }
                int[] want = new int[8];
                want[second] = 3;
                want[third] = 1;
                sums("without the place " + first + " of three", x, want);
            }
        }
    }

    private static void noNumberDividesAll() {
        // 1,1 and 2,2 and 3,3 are kept; 2,1 and 3,2 are not.
        sums("twice and three times", Due.net("p0;p0;m<0>1"), row(1, 1));
        sums("weights of 2 and 2 and 1", Due.net("p0;p0;p0;m<0>1;m<2>0*2"), row(1, 1, 2));
        sums("a 0 is divided by each number", Due.net("p0;p0;p0;m<0>1;m<2"), row(1, 1, 0));
    }

    private static void theLesserWeightsFirst() {
        sums("by the weight of the last places", Due.net("p0;p0;p0;p0;p0;p0;p0;p0;m<0;m<1;m<2;m<3;m<4;m<5*4>6,7"),
                row(0, 0, 0, 0, 0, 1, 1, 3), row(0, 0, 0, 0, 0, 1, 2, 2), row(0, 0, 0, 0, 0, 1, 3, 1));
        sums("by the weight of the place 0", Due.net("p0;p0;p0;m<1*4>0,2"), row(1, 1, 3), row(2, 1, 2), row(3, 1, 1));
        sums("fewer places do not come first", Due.net("p0;p0;p0;p0;m<0;m<1>2,3"), row(0, 1, 0, 1), row(0, 1, 1, 0));
        sums("a lesser place 0 with greater others", Due.net("p0;p0;p0;m<0>1*3"), row(0, 0, 1), row(3, 1, 0));
    }

    private static void whatItComesToNow() {
        Due due = new Due("promise 14, what it comes to by the tokens of now");
        TokenNets x = Due.net("p999;p999;m<0*3>1");
        due.is("kept(0, 8)", x.kept(0, 8), 3996);
        x.make(0);
        due.is("kept(0, 8), the move keeps it", x.kept(0, 8), 3996);
        x.tokens(0, 0);
        x.tokens(1, 0);
        due.is("kept(0, 8), no tokens", x.kept(0, 8), 0);
        x.undo();
        due.is("kept(0, 8), after undo", x.kept(0, 8), 3000);
    }

    private static void whatIsNoPlace() {
        for (int places = 1; places <= 8; places++) {
            Due due = new Due("promise 14, what is no place of " + places + " and not 8");
            TokenNets x = new TokenNets();
            for (int p = 0; p < places; p++) {
                x.place(1);
            }
            for (int what = 0; what < 8; what++) {
                int want = what >= places ? -2 : what == places - 1 ? 1 : 0;
                due.is("kept(0, " + what + ")", x.kept(0, what), want);
            }
            due.is("kept(0, 8)", x.kept(0, 8), 1);
            due.is("kept(0, 9)", x.kept(0, 9), -2);
            due.is("kept(0, -1)", x.kept(0, -1), -2);
            due.is("kept(places - 1, 8)", x.kept(places - 1, 8), 1);
            due.is("kept(places, 8)", x.kept(places, 8), -1);
            due.is("kept(places, 9)", x.kept(places, 9), -1);
        }
    }

    /** What was found for a net is not told of another one. */
    private static void manyAfterEachChange() {
        Due due = new Due("promise 15, after changes");
        TokenNets x = new TokenNets();
        due.is("keptMany() of nothing", x.keptMany(), 0);
        x.place(1);
        due.is("keptMany() of a place", x.keptMany(), 1);
        x.place(1);
        due.is("keptMany() of two places", x.keptMany(), 2);
        x.save(0);
        x.move();
        x.arc(0, 0, 1, 0);
        due.is("keptMany() with a move that takes", x.keptMany(), 1);
        x.arc(0, 1, 0, 1);
        due.is("keptMany() with a move that hands on", x.keptMany(), 1);
        due.is("kept(0, 0)", x.kept(0, 0), 1);
        x.arc(0, 1, 1, 0);
        due.is("keptMany() with a move that takes from both", x.keptMany(), 0);
        x.undo();
        due.is("keptMany() after undo", x.keptMany(), 1);
        x.restore(0);
        due.is("keptMany() after restore", x.keptMany(), 2);
        Due.write(x, "m<0>1*9");
        x.carryOut();
        due.is("keptMany() after a text", x.keptMany(), 0);
    }

    private static void manyOfNothingAgain() {
        Due due = new Due("promise 15, of nothing after undo");
        TokenNets x = new TokenNets();
        x.save(0);
        x.place(1);
        due.is("keptMany() of a place", x.keptMany(), 1);
        x.undo();
        due.is("keptMany() of nothing", x.keptMany(), 0);
        due.is("kept(0, 8) of nothing", x.kept(0, 8), -1);
        x.place(1);
        due.is("keptMany() of a place again", x.keptMany(), 1);
        x.restore(0);
        due.is("keptMany() of nothing after restore", x.keptMany(), 0);
    }

    private static void allArcs(TokenNets x, int takes, int gives) {
        for (int arc = 0; arc < 64; arc++) {
            x.arc(arc / 8, arc % 8, takes, gives);
        }
    }

    private static void manyAfterAllArcs() {
        Due due = new Due("promise 15, after all arcs changed");
        TokenNets x = Due.net("p0;p0;p0;p0;p0;p0;p0;p0;m;m;m;m;m;m;m;m");
        allArcs(x, 1, 1);
        due.is("keptMany()", x.keptMany(), 8);
        allArcs(x, 2, 1);
        due.is("keptMany(), all take more", x.keptMany(), 0);
        allArcs(x, 2, 2);
        due.is("keptMany(), all give more", x.keptMany(), 8);
    }

    /** Each arc alone, taking and giving, makes it another net. */
    private static void manyAfterEachArc() {
        for (int m = 0; m < 8; m++) {
            Due due = new Due("promise 15, after each arc of the move " + m);
            TokenNets x = Due.net("p0;p0;p0;p0;p0;p0;p0;p0;m;m;m;m;m;m;m;m");
            for (int p = 0; p < 8; p++) {
                due.is("keptMany() without arcs", x.keptMany(), 8);
                x.arc(m, p, 0, 1);
                due.is("keptMany() as it gives to " + p, x.keptMany(), 7);
                x.arc(m, p, 1, 1);
                due.is("keptMany() as it takes and gives", x.keptMany(), 8);
                x.arc(m, p, 1, 0);
                due.is("keptMany() as it takes from " + p, x.keptMany(), 7);
                x.arc(m, p, 1, 1);
                due.is("keptMany() as it takes and gives again", x.keptMany(), 8);
                x.arc(m, p, 0, 1);
                due.is("keptMany() as it gives again", x.keptMany(), 7);
                x.arc(m, p, 0, 0);
            }
        }
    }

    private static void theEmptySetIsBoth() {
        Due due = new Due("traps and drains, the empty set is both");
        for (String net : new String[] {"p7", "p7;m<0>0", "p7;m<0", "p7;m>0"}) {
            TokenNets x = Due.net(net);
            for (int what = 0; what < 4; what++) {
                due.is("trap(0, " + what + ") of " + net, x.trap(0, what), 0);
            }
        }
        TokenNets none = new TokenNets();
        for (int what = 0; what < 4; what++) {
            due.is("trap(0, " + what + ") of nothing", none.trap(0, what), 0);
        }
        TokenNets both = Due.net("p7;m<0;m>0");
        for (int what = 0; what < 4; what++) {
            due.is("trap(1, " + what + "), none but the empty one", both.trap(1, what), 0);
        }
    }

    private static void aMoveOfOneSide() {
        Due due = new Due("traps and drains, moves that only take or only give");
        TokenNets takes = Due.net("p7;m<0");
        due.is("trap(1, 0) of what is only taken from", takes.trap(1, 0), 0);
        due.is("trap(1, 1) of what is only taken from", takes.trap(1, 1), 1);
        due.is("trap(1, 2)", takes.trap(1, 2), 0);
        due.is("trap(1, 3)", takes.trap(1, 3), 7);
        TokenNets gives = Due.net("p7;m>0");
        due.is("trap(1, 0) of what is only given to", gives.trap(1, 0), 1);
        due.is("trap(1, 1) of what is only given to", gives.trap(1, 1), 0);
        due.is("trap(1, 2)", gives.trap(1, 2), 7);
        due.is("trap(1, 3)", gives.trap(1, 3), 0);
        TokenNets same = Due.net("p7;m<0*9>0");
        due.is("trap(1, 0) of what is taken from and given to", same.trap(1, 0), 1);
        due.is("trap(1, 1) of what is taken from and given to", same.trap(1, 1), 1);
    }

    private static void givesToSomePlaceOfIt() {
        Due due = new Due("traps and drains, some place of the set is enough");
        TokenNets x = Due.net("p1;p2;p4;m<0,1>2;m<2>0");
        due.is("trap(7, 0)", x.trap(7, 0), 7);
        due.is("trap(6, 0), the place 2 loses", x.trap(6, 0), 0);
        due.is("trap(5, 0), each gives to the other one", x.trap(5, 0), 5);
        due.is("trap(5, 1)", x.trap(5, 1), 5);
        due.is("trap(6, 1), what gives to 2 takes from 1", x.trap(6, 1), 6);
        due.is("trap(4, 1), it is given from outside", x.trap(4, 1), 0);
        due.is("trap(2, 1), it is never given to", x.trap(2, 1), 2);
    }

    /** A place that falls out makes the next one fall, through all eight. */
    private static void oneFallsAfterTheOther() {
        Due due = new Due("promise 16, the greatest one");
        TokenNets x = Due.net("p1;p1;p1;p1;p1;p1;p1;p1;m<7;m<6>7;m<5>6;m<4>5;m<3>4;m<2>3;m<1>2;m<0>1");
        due.is("trap(255, 0)", x.trap(255, 0), 0);
        due.is("trap(255, 1)", x.trap(255, 1), 255);
        TokenNets y = Due.net("p1;p1;p1;p1;p1;p1;p1;p1;m<0>1;m<1>2;m<2>3;m<3>4;m<4>5;m<5>6;m<6>7;m<7");
        due.is("trap(255, 0), the other way round", y.trap(255, 0), 0);
        TokenNets z = Due.net("p1;p1;p1;p1;p1;p1;p1;p1;m>7;m<7>6;m<6>5;m<5>4;m<4>3;m<3>2;m<2>1;m<1>0");
        due.is("trap(255, 1)", z.trap(255, 1), 0);
        due.is("trap(255, 0)", z.trap(255, 0), 255);
        TokenNets w = Due.net("p1;p1;p1;p1;p1;p1;p1;p1;m<1>0;m<2>1;m<3>2;m<4>3;m<5>4;m<6>5;m<7>6;m>7");
        due.is("trap(255, 1), the other way round", w.trap(255, 1), 0);
    }

    private static void aSetOfPlacesThatAreThere() {
        for (int places = 0; places <= 8; places++) {
            Due due = new Due("promise 16, the sets of " + places + " places");
            TokenNets x = new TokenNets();
            for (int p = 0; p < places; p++) {
                x.place(1);
            }
            int all = (1 << places) - 1;
            due.is("trap(" + all + ", 0)", x.trap(all, 0), all);
            due.is("trap(" + all + ", 3)", x.trap(all, 3), places);
            due.is("trap(" + (all + 1) + ", 0)", x.trap(all + 1, 0), -1);
            due.is("trap(" + (all + 2) + ", 0)", x.trap(all + 2, 0), -1);
            due.is("trap(65536, 0)", x.trap(65536, 0), -1);
            due.is("trap(most, 0)", x.trap(Integer.MAX_VALUE, 0), -1);
            due.is("trap(-1, 0)", x.trap(-1, 0), -1);
            due.is("trap(least, 0)", x.trap(Integer.MIN_VALUE, 0), -1);
            due.is("trap(" + all + ", 4)", x.trap(all, 4), -2);
            due.is("trap(" + all + ", -1)", x.trap(all, -1), -2);
        }
    }

    public static void main(String[] args) {
        weightsUpTo3();
        notAllWeightsAre0();
        eachMoveKeepsIt();
        withoutMovesEachPlaceAlone();
        someButNotAllOfItsPlaces();
        oneOfThreePlacesTooMany();
        noNumberDividesAll();
        theLesserWeightsFirst();
        whatItComesToNow();
        whatIsNoPlace();
        manyAfterEachChange();
        manyAfterEachArc();
        manyOfNothingAgain();
        manyAfterAllArcs();
        theEmptySetIsBoth();
        aMoveOfOneSide();
        givesToSomePlaceOfIt();
        oneFallsAfterTheOther();
        aSetOfPlacesThatAreThere();
        Due.end();
    }
}
