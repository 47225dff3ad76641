/** The edges that the terms of a net and promises 1 to 13 name, a method for each. */
public final class NetEdgesTest {
    private static TokenNets places(int many, int tokens) {
        TokenNets x = new TokenNets();
        for (int p = 0; p < many; p++) {
            x.place(tokens);
        }
        return x;
    }

    private static TokenNets moves(int many) {
        TokenNets x = new TokenNets();
        for (int m = 0; m < many; m++) {
            x.move();
        }
        return x;
    }

    /** So many places with 99999 tokens each, and the move 0, which gives 9 to each of them. */
    private static TokenNets filled(int many) {
        TokenNets x = places(many, 999);
        x.move();
        for (int p = 0; p < many; p++) {
            x.arc(0, p, 0, 9);
        }
        for (int i = 0; i < 112; i++) {
            x.run(i, i < 111 ? 99 : 11);
        }
        return x;
    }

    // ---- Net

    private static void atFirstThereIsNone() {
        Due due = new Due("net, at first none");
        TokenNets x = new TokenNets();
        due.is("count(0)", x.count(0), 0);
        due.is("count(1)", x.count(1), 0);
        due.is("ofPlace(0, 0)", x.ofPlace(0, 0), -1);
        due.is("ofMove(0, 0)", x.ofMove(0, 0), -1);
        due.is("ofArc(0, 0, 0)", x.ofArc(0, 0, 0), -1);
        due.is("arc(0, 0, 0, 0)", x.arc(0, 0, 0, 0), -1);
        due.is("tokens(0, 0)", x.tokens(0, 0), -1);
        due.is("make(0)", x.make(0), -1);
        due.is("trap(0, 0)", x.trap(0, 0), 0);
        due.is("trap(1, 0)", x.trap(1, 0), -1);
        due.is("fewest(0, 0)", x.fewest(0, 0), -1);
        due.is("bound(0)", x.bound(0), -1);
    }

    private static void placesUpToEight() {
        Due due = new Due("net, up to 8 places");
        TokenNets x = new TokenNets();
        for (int p = 0; p < 8; p++) {
            due.is("ofPlace(" + p + ", 0) before it comes", x.ofPlace(p, 0), -1);
            due.is("place(" + p + ")", x.place(p), p);
            due.is("ofPlace(" + p + ", 0)", x.ofPlace(p, 0), p);
        }
        due.is("place(8)", x.place(8), -4);
        due.is("ofPlace(7, 0)", x.ofPlace(7, 0), 7);
        due.is("ofPlace(8, 0)", x.ofPlace(8, 0), -1);
        due.is("count(0)", x.count(0), 8);
        x.undo();
        due.is("place(8), after one is gone", x.place(8), 7);
    }

    private static void movesUpToEight() {
        Due due = new Due("net, up to 8 moves");
        TokenNets x = new TokenNets();
        for (int m = 0; m < 8; m++) {
            due.is("ofMove(" + m + ", 0) before it comes", x.ofMove(m, 0), -1);
            due.is("move()", x.move(), m);
            due.is("ofMove(" + m + ", 0)", x.ofMove(m, 0), 1);
        }
        due.is("move()", x.move(), -4);
        due.is("ofMove(8, 0)", x.ofMove(8, 0), -1);
        due.is("make(7)", x.make(7), 8);
        due.is("count(1)", x.count(1), 8);
        x.undo();
        x.undo();
        due.is("move(), after one is gone", x.move(), 7);
        due.is("ofMove(7, 1)", x.ofMove(7, 1), 0);
    }

    private static void aNewPlaceHasNoArcs() {
        Due due = new Due("net, 0 when the place comes");
        TokenNets x = Due.net("p1;m<0*9>0*9;m<0*9>0*9");
        x.place(1);
        x.arc(0, 1, 3, 4);
        x.undo();
        x.undo();
        due.is("place(2)", x.place(2), 1);
        for (int m = 0; m < 2; m++) {
            due.is("ofArc(" + m + ", 1, 0)", x.ofArc(m, 1, 0), 0);
            due.is("ofArc(" + m + ", 1, 1)", x.ofArc(m, 1, 1), 0);
        }
        due.is("ofPlace(1, 1)", x.ofPlace(1, 1), 0);
        due.is("ofPlace(1, 2)", x.ofPlace(1, 2), 0);
    }

    private static void aNewMoveHasNoArcs() {
        Due due = new Due("net, 0 when the move comes");
        TokenNets x = Due.net("p1;p2;m<0*9,1*9>0*9,1*9");
        x.move();
        x.arc(1, 0, 3, 4);
        x.undo();
        x.undo();
        due.is("move()", x.move(), 1);
        for (int p = 0; p < 2; p++) {
            due.is("ofArc(1, " + p + ", 0)", x.ofArc(1, p, 0), 0);
            due.is("ofArc(1, " + p + ", 1)", x.ofArc(1, p, 1), 0);
        }
        due.is("ofMove(1, 2)", x.ofMove(1, 2), 0);
        due.is("ofMove(1, 3)", x.ofMove(1, 3), 0);
        due.is("ofMove(1, 4)", x.ofMove(1, 4), 100);
    }

    private static void justEnoughTokens() {
        Due due = new Due("net, at least as many tokens as the move takes");
        for (int takes = 1; takes <= 9; takes++) {
            TokenNets x = Due.net("p" + takes + ";m<0*" + takes);
            due.is("ofMove(0, 0) with " + takes, x.ofMove(0, 0), 1);
            due.is("make(0) with " + takes, x.make(0), 0);
            due.is("ofPlace(0, 0)", x.ofPlace(0, 0), 0);
            x.tokens(0, takes - 1);
            due.is("ofMove(0, 0) with one fewer than " + takes, x.ofMove(0, 0), 0);
            due.is("make(0) with one fewer than " + takes, x.make(0), -5);
        }
    }

    private static void eachPlaceNeedsEnough() {
        Due due = new Due("net, each place has at least as many");
        for (int short1 = 0; short1 < 8; short1++) {
            TokenNets x = places(8, 1);
            x.move();
            for (int p = 0; p < 8; p++) {
                x.arc(0, p, 1, 0);
            }
            due.is("ofMove(0, 0)", x.ofMove(0, 0), 1);
            x.tokens(short1, 0);
            due.is("ofMove(0, 0) without tokens on " + short1, x.ofMove(0, 0), 0);
            due.is("make(0) without tokens on " + short1, x.make(0), -5);
            due.is("count(2)", x.count(2), 7);
        }
    }

    private static void aMoveWithoutArcsCanBeMade() {
        Due due = new Due("net, a move that takes and gives nothing");
        TokenNets x = moves(1);
        due.is("ofMove(0, 0) without places", x.ofMove(0, 0), 1);
        due.is("make(0) without places", x.make(0), 1);
        x.place(0);
        due.is("ofMove(0, 0) without tokens", x.ofMove(0, 0), 1);
        due.is("make(0) without tokens", x.make(0), 1);
        due.is("ofPlace(0, 0)", x.ofPlace(0, 0), 0);
    }

    private static void noMoreThan99999() {
        Due due = new Due("net, no place would have more than 99999 tokens");
        TokenNets x = filled(1);
        due.is("ofPlace(0, 0), just as many", x.ofPlace(0, 0), 99999);
        due.is("make(0), nine more", x.make(0), -5);
        x.arc(0, 0, 0, 1);
        due.is("make(0), one more", x.make(0), -5);
        x.arc(0, 0, 0, 0);
        due.is("make(0), as many as there are", x.make(0), 1);
        x.arc(0, 0, 1, 0);
        due.is("make(0), one fewer", x.make(0), 1);
        x.arc(0, 0, 0, 2);
        due.is("make(0), one above the most", x.make(0), -5);
        x.arc(0, 0, 0, 1);
        due.is("make(0), just the most", x.make(0), 0);
        due.is("ofPlace(0, 0)", x.ofPlace(0, 0), 99999);
        due.is("ofPlace(0, 3)", x.ofPlace(0, 3), 99999);
    }

    private static void noPlaceOfAllMayHaveMore() {
        Due due = new Due("net, no place of all eight would have more");
        TokenNets x = filled(8);
        for (int p = 0; p < 8; p++) {
            x.arc(0, p, 0, 0);
        }
        due.is("ofMove(0, 0)", x.ofMove(0, 0), 1);
        for (int p = 0; p < 8; p++) {
            due.is("ofPlace(" + p + ", 0)", x.ofPlace(p, 0), 99999);
            x.arc(0, p, 0, 1);
            due.is("ofMove(0, 0) that gives to " + p, x.ofMove(0, 0), 0);
            x.arc(0, p, 0, 0);
        }
        due.is("count(2)", x.count(2), 799992);
        due.is("mean(0)", x.mean(0), Double.doubleToLongBits(99999.0));
        due.is("mean(1)", x.mean(1), 0);
        due.is("keptMany()", x.keptMany(), 8);
        due.is("trap(255, 2)", x.trap(255, 2), 799992);
        due.is("save(0)", x.save(0), 799992);
        due.is("restore(0)", x.restore(0), 799992);
    }

    private static void firstTakenThenGiven() {
        Due due = new Due("net, first taken, then given");
        TokenNets x = Due.net("p1;m<0*2>0*9");
        due.is("make(0), it gives enough but takes first", x.make(0), -5);
        x.tokens(0, 2);
        due.is("make(0)", x.make(0), 1);
        due.is("ofPlace(0, 0)", x.ofPlace(0, 0), 9);
        TokenNets y = filled(1);
        y.arc(0, 0, 9, 9);
        due.is("make(0) at the most, with room by what it takes", y.make(0), 1);
        y.arc(0, 0, 8, 9);
        due.is("make(0) at the most, with too little room", y.make(0), -5);
    }

    // ---- promises 1 to 7

    private static void tokensOfAPlaceThatComes() {
        Due due = new Due("promise 2, tokens 0 to 999");
        TokenNets x = new TokenNets();
        due.is("place(-1)", x.place(-1), -2);
        due.is("place(1000)", x.place(1000), -2);
        due.is("count(0)", x.count(0), 0);
        due.is("place(0)", x.place(0), 0);
        due.is("place(999)", x.place(999), 1);
        due.is("ofPlace(0, 0)", x.ofPlace(0, 0), 0);
        due.is("ofPlace(1, 0)", x.ofPlace(1, 0), 999);
        due.is("place(least)", x.place(Integer.MIN_VALUE), -2);
        due.is("place(most)", x.place(Integer.MAX_VALUE), -2);
    }

    private static void arcsFrom0To9() {
        Due due = new Due("promise 4, takes and gives 0 to 9");
        TokenNets x = Due.net("p1;m");
        due.is("arc(0, 0, 9, 0)", x.arc(0, 0, 9, 0), 0);
        due.is("arc(0, 0, 0, 9)", x.arc(0, 0, 0, 9), 90);
        due.is("arc(0, 0, 9, 9)", x.arc(0, 0, 9, 9), 9);
        due.is("arc(0, 0, 10, 9)", x.arc(0, 0, 10, 9), -2);
        due.is("arc(0, 0, 9, 10)", x.arc(0, 0, 9, 10), -2);
        due.is("arc(0, 0, -1, 9)", x.arc(0, 0, -1, 9), -2);
        due.is("arc(0, 0, 9, -1)", x.arc(0, 0, 9, -1), -2);
        due.is("arc(0, 0, 0, 0)", x.arc(0, 0, 0, 0), 99);
        due.is("arc(0, 0, 0, 0)", x.arc(0, 0, 0, 0), 0);
    }

    private static void arcsOfTheLastOnes() {
        Due due = new Due("promise 4, the last place and move");
        TokenNets x = Due.net("p1;p1;p1;p1;p1;p1;p1;p1;m;m;m;m;m;m;m;m");
        for (int i = 0; i < 8; i++) {
            due.is("arc", x.arc(i, 7 - i, i + 1, 8 - i), 0);
        }
        for (int m = 0; m < 8; m++) {
            for (int p = 0; p < 8; p++) {
                due.is("ofArc(" + m + ", " + p + ", 0)", x.ofArc(m, p, 0), p == 7 - m ? m + 1 : 0);
                due.is("ofArc(" + m + ", " + p + ", 1)", x.ofArc(m, p, 1), p == 7 - m ? 8 - m : 0);
            }
        }
        due.is("arc(7, 8, 0, 0)", x.arc(7, 8, 0, 0), -1);
        due.is("arc(8, 7, 0, 0)", x.arc(8, 7, 0, 0), -1);
    }

    private static void tokensFrom0To999() {
        Due due = new Due("promise 5, tokens 0 to 999");
        TokenNets x = places(8, 5);
        due.is("tokens(7, 999)", x.tokens(7, 999), 5);
        due.is("tokens(7, 1000)", x.tokens(7, 1000), -2);
        due.is("tokens(7, -1)", x.tokens(7, -1), -2);
        due.is("tokens(7, 0)", x.tokens(7, 0), 999);
        due.is("tokens(7, 5)", x.tokens(7, 5), 0);
        due.is("tokens(8, 5)", x.tokens(8, 5), -1);
    }

    private static void tokensOfAFilledPlace() {
        Due due = new Due("promise 5, how many there were, above 999");
        TokenNets x = filled(1);
        due.is("tokens(0, 999)", x.tokens(0, 999), 99999);
        due.is("tokens(0, 0)", x.tokens(0, 0), 999);
    }

    private static void makeTellsTheMovesBehindIt() {
        Due due = new Due("promise 6, how many moves can be made then");
        TokenNets x = Due.net("p1;p0;m<0;m<0>1;m<1");
        due.is("make(1), one is left and the others are not", x.make(1), 1);
        due.is("make(2), none is left", x.make(2), 0);
        due.is("make(2)", x.make(2), -5);
        TokenNets y = moves(8);
        due.is("make(0), all eight", y.make(0), 8);
        due.is("make(7), all eight", y.make(7), 8);
        due.is("make(8)", y.make(8), -1);
    }

    private static void runOfOneAndOf99() {
        Due due = new Due("promise 7, many 1 to 99");
        TokenNets x = Due.net("p0;m>0");
        due.is("run(0, 0)", x.run(0, 0), -2);
        due.is("run(0, 1)", x.run(0, 1), 1);
        due.is("ofPlace(0, 0)", x.ofPlace(0, 0), 1);
        due.is("run(0, 99)", x.run(0, 99), 99);
        due.is("ofPlace(0, 0)", x.ofPlace(0, 0), 100);
        due.is("run(0, 100)", x.run(0, 100), -2);
        due.is("ofPlace(0, 0)", x.ofPlace(0, 0), 100);
        due.is("ofMove(0, 1)", x.ofMove(0, 1), 100);
    }

    /** Which of so many moves are made, worked out in longs by the promise's words. */
    private static void seed(int seed, int moves) {
        Due due = new Due("promise 7, the seed " + seed + " and " + moves + " moves");
        TokenNets x = moves(moves);
        int[] made = new int[moves];
        long number = seed;
        for (int i = 0; i < 99; i++) {
            number = (number * 1103515245 + 12345) % 2147483648L;
            made[(int) (number / 65536 % moves)]++;
        }
        due.is("run(" + seed + ", 99)", x.run(seed, 99), 99);
        for (int m = 0; m < moves; m++) {
            due.is("ofMove(" + m + ", 1)", x.ofMove(m, 1), made[m]);
        }
    }

    private static void seedsFrom0() {
        for (int moves = 1; moves <= 8; moves++) {
            for (int seed : new int[] {0, 1, 65535, 65536, 1 << 30, Integer.MAX_VALUE - 1, Integer.MAX_VALUE}) {
                seed(seed, moves);
            }
        }
        Due due = new Due("promise 7, seed 0 or more");
        TokenNets x = moves(1);
        due.is("run(-1, 1)", x.run(-1, 1), -2);
        due.is("run(least, 1)", x.run(Integer.MIN_VALUE, 1), -2);
        due.is("count(4)", x.count(4), 0);
    }

    private static void runLeavesMovesOut() {
        Due due = new Due("promise 7, of the n moves that can be made, in ascending order");
        TokenNets x = Due.net("p0;m<0;m;m<0;m;m<0");
        // 12345 / 65536 is 0, so it is the first of the two moves that can be made.
        due.is("run(0, 1)", x.run(0, 1), 1);
        due.is("ofMove(1, 1), the first of two", x.ofMove(1, 1), 1);
        int seed = 0;
        while (((seed * 1103515245L + 12345) % 2147483648L) / 65536 % 2 == 0) {
            seed++;
        }
        due.is("run(seed, 1)", x.run(seed, 1), 1);
        due.is("ofMove(3, 1), the second of two", x.ofMove(3, 1), 1);
        due.is("count(3)", x.count(3), 10);
        due.is("count(4)", x.count(4), 2);
    }

    private static void runEndsWhenNoneCanBeMade() {
        Due due = new Due("promise 7, it ends when none can be made");
        TokenNets x = Due.net("p3;m<0");
        due.is("run(1, 2)", x.run(1, 2), 2);
        due.is("run(1, 2), one is left", x.run(1, 2), 1);
        due.is("run(1, 2), none is left", x.run(1, 2), 0);
        due.is("count(4)", x.count(4), 3);
        due.is("count(6), also that of none is a change", x.count(6), 4);
        TokenNets y = new TokenNets();
        due.is("run(0, 99) without moves", y.run(0, 99), 0);
        due.is("count(6)", y.count(6), 1);
        TokenNets z = filled(1);
        due.is("run(0, 99) at the most tokens", z.run(0, 99), 0);
        z.tokens(0, 999);
        due.is("run(0, 99) below the most tokens", z.run(0, 99), 99);
    }

    // ---- promises 8 to 13

    private static void mostSinceItCame() {
        Due due = new Due("promise 8, the most since it came");
        TokenNets x = Due.net("p7;m<0*7>0*2;m>0*3");
        due.is("ofPlace(0, 3)", x.ofPlace(0, 3), 7);
        x.make(0);
        due.is("ofPlace(0, 0)", x.ofPlace(0, 0), 2);
        due.is("ofPlace(0, 3), fewer now", x.ofPlace(0, 3), 7);
        x.make(1);
        due.is("ofPlace(0, 3), still fewer", x.ofPlace(0, 3), 7);
        x.make(1);
        due.is("ofPlace(0, 3), one more than ever", x.ofPlace(0, 3), 8);
        x.undo();
        due.is("ofPlace(0, 3) after undo", x.ofPlace(0, 3), 7);
    }

    private static void mostSinceTokensWasCalled() {
        Due due = new Due("promise 8, the most since tokens() was called for it");
        TokenNets x = Due.net("p7;p6;m<0*7,1*6");
        x.make(0);
        x.tokens(0, 0);
        due.is("ofPlace(0, 3), the same tokens as now", x.ofPlace(0, 3), 0);
        due.is("ofPlace(1, 3), of another place", x.ofPlace(1, 3), 6);
        Due.write(x, "=1:0");
        x.carryOut();
        due.is("ofPlace(1, 3), by a text", x.ofPlace(1, 3), 0);
        due.is("tokens(1, 1000)", x.tokens(1, 1000), -2);
        x.tokens(1, 4);
        due.is("tokens(1, -1)", x.tokens(1, -1), -2);
        due.is("ofPlace(1, 3) after an error", x.ofPlace(1, 3), 4);
    }

    private static void mostWithinARun() {
        Due due = new Due("promise 8, the most within a run or a text");
        TokenNets x = Due.net("p0;p5;m<1*5>0*9;m<0*9");
        due.is("run(0, 2)", x.run(0, 2), 2);
        due.is("ofPlace(0, 0)", x.ofPlace(0, 0), 0);
        due.is("ofPlace(0, 3)", x.ofPlace(0, 3), 9);
        Due.write(x, "=0:0;=1:5;!0;!1");
        due.is("carryOut()", x.carryOut(), 4);
        due.is("ofPlace(0, 0)", x.ofPlace(0, 0), 0);
        due.is("ofPlace(0, 3)", x.ofPlace(0, 3), 9);
    }

    private static void setsOfAllAndOfNone() {
        Due due = new Due("promises 8 and 9, sets of all eight and of none");
        TokenNets x = Due.net("p1;p1;p1;p1;p1;p1;p1;p1;m;m;m;m;m;m;m;m");
        due.is("ofPlace(7, 1)", x.ofPlace(7, 1), 0);
        due.is("ofMove(7, 2)", x.ofMove(7, 2), 0);
        for (int i = 0; i < 8; i++) {
            x.arc(i, 7, 1, 0);
            x.arc(7, i, i == 7 ? 1 : 0, 9);
        }
        due.is("ofPlace(7, 1)", x.ofPlace(7, 1), 255);
        due.is("ofPlace(7, 2)", x.ofPlace(7, 2), 128);
        due.is("ofPlace(0, 2)", x.ofPlace(0, 2), 128);
        due.is("ofMove(7, 2)", x.ofMove(7, 2), 128);
        due.is("ofMove(7, 3)", x.ofMove(7, 3), 255);
        due.is("ofMove(0, 2)", x.ofMove(0, 2), 128);
        due.is("count(3)", x.count(3), 255);
    }

    private static void givesLessTakesFrom28To172() {
        Due due = new Due("promise 9, all that it gives less all that it takes, and 100");
        TokenNets x = Due.net("p1;p1;p1;p1;p1;p1;p1;p1;m;m;m");
        for (int p = 0; p < 8; p++) {
            x.arc(0, p, 9, 0);
            x.arc(1, p, 0, 9);
            x.arc(2, p, 9, 9);
        }
        due.is("ofMove(0, 4)", x.ofMove(0, 4), 28);
        due.is("ofMove(1, 4)", x.ofMove(1, 4), 172);
        due.is("ofMove(2, 4)", x.ofMove(2, 4), 100);
    }

    private static void countsOfWhatIsFull() {
        Due due = new Due("promise 11, the most of each count");
        TokenNets x = Due.net("p1;p1;p1;p1;p1;p1;p1;p1;m;m;m;m;m;m;m;m");
        for (int i = 0; i < 10; i++) {
            x.make(i % 8);
            Due.write(x, "pppppppp");
        }
        due.is("count(0)", x.count(0), 8);
        due.is("count(1)", x.count(1), 8);
        due.is("count(2)", x.count(2), 8);
        due.is("count(3)", x.count(3), 255);
        due.is("count(4)", x.count(4), 10);
        due.is("count(5)", x.count(5), 80);
        due.is("count(6)", x.count(6), 6);
        due.is("count(7)", x.count(7), -2);
        due.is("count(-1)", x.count(-1), -2);
    }

    private static void shareOfNoneAndOfAll() {
        Due due = new Due("promise 12, none, one and all");
        TokenNets x = moves(2);
        due.is("share(0), none was made", x.share(0), -6);
        x.make(0);
        due.is("share(0), all of them", x.share(0), Float.floatToIntBits(1f));
        due.is("share(1), none of them", x.share(1), 0);
        due.is("share(2)", x.share(2), -1);
        x.make(1);
        due.is("share(0), just the half", x.share(0), Float.floatToIntBits(0.5f));
        x.make(1);
        due.is("share(0), a third", x.share(0), Float.floatToIntBits((float) (1.0 / 3)));
        due.is("share(1), two thirds", x.share(1), Float.floatToIntBits((float) (2.0 / 3)));
        x.undo();
        x.undo();
        x.undo();
        due.is("share(0) after undo, none was made", x.share(0), -6);
    }

    private static void meanWithoutPlaces() {
        Due due = new Due("promise 13, 0 without places");
        TokenNets x = moves(1);
        due.is("mean(0)", x.mean(0), 0);
        due.is("mean(1)", x.mean(1), 0);
        due.is("mean(2)", x.mean(2), -2);
        x.place(0);
        due.is("mean(0) of no tokens", x.mean(0), 0);
        due.is("mean(1) of no tokens", x.mean(1), 0);
    }

    private static void meanWithNothingLeftOver() {
        Due due = new Due("promise 13, what is left over by 1.0");
        TokenNets x = places(7, 0);
        for (int sum : new int[] {1, 6, 7, 8, 13, 14, 15, 993, 994, 995, 999}) {
            x.tokens(6, sum);
            double mean = sum / 7.0;
            due.is("mean(0) of " + sum, x.mean(0), Double.doubleToLongBits(mean));
            due.is("mean(1) of " + sum, x.mean(1), Double.doubleToLongBits(mean % 1.0));
        }
        x.tokens(6, 994);
        due.is("mean(1) of 142", x.mean(1), 0);
    }

    public static void main(String[] args) {
        atFirstThereIsNone();
        placesUpToEight();
        movesUpToEight();
        aNewPlaceHasNoArcs();
        aNewMoveHasNoArcs();
        justEnoughTokens();
        eachPlaceNeedsEnough();
        aMoveWithoutArcsCanBeMade();
        noMoreThan99999();
        noPlaceOfAllMayHaveMore();
        firstTakenThenGiven();
        tokensOfAPlaceThatComes();
        arcsFrom0To9();
        arcsOfTheLastOnes();
        tokensFrom0To999();
        tokensOfAFilledPlace();
        makeTellsTheMovesBehindIt();
        runOfOneAndOf99();
        seedsFrom0();
        runLeavesMovesOut();
        runEndsWhenNoneCanBeMade();
        mostSinceItCame();
        mostSinceTokensWasCalled();
        mostWithinARun();
        setsOfAllAndOfNone();
        givesLessTakesFrom28To172();
        countsOfWhatIsFull();
        shareOfNoneAndOfAll();
        meanWithoutPlaces();
        meanWithNothingLeftOver();
        Due.end();
    }
}
