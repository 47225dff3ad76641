import java.util.function.Supplier;
import java.util.function.ToLongFunction;

/** The conventions: which error comes first, and that a call that answers one changes nothing. */
public final class ErrorsTest {
    private static final int NO_SUCH = -1, BAD_VALUE = -2, BAD_TEXT = -3, TOO_MANY = -4, NOT_POSSIBLE = -5, NONE = -6;
    private static final int LEAST = Integer.MIN_VALUE;
    private static final int MOST = Integer.MAX_VALUE;

    private final String name;
    private final Supplier<TokenNets> base;
    private final Due due;

    private ErrorsTest(String name, Supplier<TokenNets> base) {
        this.name = name;
        this.base = base;
        due = new Due("conventions, " + name);
    }

    /** The call answers so, and an object that it was called on differs in nothing from one without it. */
    private void answers(String call, int want, ToLongFunction<TokenNets> wrong) {
        TokenNets with = base.get();
        due.is(call, wrong.applyAsLong(with), want);
        if (!Answers.all(with).equals(Answers.all(base.get()))) {
            due.is(call + ", what there is", 1, 0);
        }
        TokenNets again = base.get();
        wrong.applyAsLong(again);
        if (!Answers.hidden(again).equals(Answers.hidden(base.get()))) {
            due.is(call + ", history, slots and pad", 1, 0);
        }
    }

    private static TokenNets small() {
        TokenNets x = Due.net("p1;p2;p3;m<0>1;m<1*4");
        x.save(0);
        x.make(0);
        x.save(1);
        x.tokens(0, 0);
        Due.write(x, "p1;m<");
        return x;
    }

    private static TokenNets full() {
        TokenNets x = Due.net("p1;p2;p3;p4;p5;p6;p7;p8;m<0>1;m<1>2;m<2*9;m;m;m;m;m");
        x.save(1);
        for (int i = 0; i < 7; i++) {
            x.tokens(7, i);
        }
        x.make(1);
        Due.write(x, "p1;p2;p3;p4;p5;p6;p7;p8;m<0>1;m<1>2;m<2*9;m;m;m;m;m;p1;p2;p3;p4;p5;p6;p7;p8;=0:9");
        return x;
    }

    /** More than 300 markings and nodes, and an endless place. */
    private static TokenNets vast() {
        TokenNets x = Due.net("p300;p0;m<0;m>1");
        x.save(0);
        return x;
    }

    private void values() {
        for (int bad : new int[] {-1, 1000, LEAST, MOST}) {
            answers("place(" + bad + ")", BAD_VALUE, x -> x.place(bad));
        }
        for (int bad : new int[] {-1, 100, 0, LEAST, MOST}) {
            answers("run(5, " + bad + ")", BAD_VALUE, x -> x.run(5, bad));
        }
        answers("run(-1, 1)", BAD_VALUE, x -> x.run(-1, 1));
        answers("run(least, 1)", BAD_VALUE, x -> x.run(LEAST, 1));
        // One above the most that each call has.
        answers("count(7)", BAD_VALUE, x -> x.count(7));
        answers("mean(2)", BAD_VALUE, x -> x.mean(2));
        answers("reached(3)", BAD_VALUE, x -> x.reached(3));
        answers("growth(4)", BAD_VALUE, x -> x.growth(4));
        answers("save(2)", BAD_VALUE, x -> x.save(2));
        answers("restore(2)", BAD_VALUE, x -> x.restore(2));
        for (int bad : new int[] {-1, LEAST, MOST}) {
            answers("count(" + bad + ")", BAD_VALUE, x -> x.count(bad));
            answers("mean(" + bad + ")", BAD_VALUE, x -> x.mean(bad));
            answers("reached(" + bad + ")", BAD_VALUE, x -> x.reached(bad));
            answers("growth(" + bad + ")", BAD_VALUE, x -> x.growth(bad));
            answers("save(" + bad + ")", BAD_VALUE, x -> x.save(bad));
            answers("restore(" + bad + ")", BAD_VALUE, x -> x.restore(bad));
        }
        for (long bad : new long[] {0, 32, 127, 128, 255, 256, 0x7000, 0x700031, -1, Long.MIN_VALUE, 0x3120313131313131L}) {
            answers("put(" + bad + ")", BAD_VALUE, x -> x.put(bad));
        }
    }

    private void numbers(int places, int moves) {
        for (int p : new int[] {-1, places, 8, LEAST, MOST}) {
            answers("tokens(" + p + ", 0)", NO_SUCH, x -> x.tokens(p, 0));
            answers("tokens(" + p + ", 1000)", NO_SUCH, x -> x.tokens(p, 1000));
            answers("ofPlace(" + p + ", 0)", NO_SUCH, x -> x.ofPlace(p, 0));
            answers("ofPlace(" + p + ", 4)", NO_SUCH, x -> x.ofPlace(p, 4));
            answers("fewest(" + p + ", 0)", NO_SUCH, x -> x.fewest(p, 0));
            answers("fewest(" + p + ", -1)", NO_SUCH, x -> x.fewest(p, -1));
            answers("bound(" + p + ")", NO_SUCH, x -> x.bound(p));
            answers("arc(0, " + p + ", 0, 0)", NO_SUCH, x -> x.arc(0, p, 0, 0));
            answers("arc(0, " + p + ", 10, -1)", NO_SUCH, x -> x.arc(0, p, 10, -1));
            answers("ofArc(0, " + p + ", 0)", NO_SUCH, x -> x.ofArc(0, p, 0));
            answers("ofArc(0, " + p + ", 2)", NO_SUCH, x -> x.ofArc(0, p, 2));
        }
        for (int m : new int[] {-1, moves, 8, LEAST, MOST}) {
            answers("arc(" + m + ", 0, 0, 0)", NO_SUCH, x -> x.arc(m, 0, 0, 0));
            answers("arc(" + m + ", 0, -1, 10)", NO_SUCH, x -> x.arc(m, 0, -1, 10));
            answers("make(" + m + ")", NO_SUCH, x -> x.make(m));
            answers("ofMove(" + m + ", 0)", NO_SUCH, x -> x.ofMove(m, 0));
            answers("ofMove(" + m + ", 5)", NO_SUCH, x -> x.ofMove(m, 5));
            answers("ofArc(" + m + ", 0, 0)", NO_SUCH, x -> x.ofArc(m, 0, 0));
            answers("ofArc(" + m + ", 0, -1)", NO_SUCH, x -> x.ofArc(m, 0, -1));
            answers("share(" + m + ")", NO_SUCH, x -> x.share(m));
        }
        for (int set : new int[] {-1, 1 << places, 256, LEAST, MOST}) {
            answers("trap(" + set + ", 0)", NO_SUCH, x -> x.trap(set, 0));
            answers("trap(" + set + ", 4)", NO_SUCH, x -> x.trap(set, 4));
        }
        int sums = base.get().keptMany();
        for (int s : new int[] {-1, sums, LEAST, MOST}) {
            answers("kept(" + s + ", 8)", NO_SUCH, x -> x.kept(s, 8));
            answers("kept(" + s + ", 9)", NO_SUCH, x -> x.kept(s, 9));
        }
    }

    /** Wrong values where there are a place and a move. */
    private void valuesOfThem() {
        for (int bad : new int[] {-1, 1000, LEAST, MOST}) {
            answers("tokens(0, " + bad + ")", BAD_VALUE, x -> x.tokens(0, bad));
        }
        for (int bad : new int[] {-1, 10, LEAST, MOST}) {
            answers("arc(0, 0, " + bad + ", 0)", BAD_VALUE, x -> x.arc(0, 0, bad, 0));
            answers("arc(0, 0, 0, " + bad + ")", BAD_VALUE, x -> x.arc(0, 0, 0, bad));
        }
        answers("ofPlace(0, 4)", BAD_VALUE, x -> x.ofPlace(0, 4));
        answers("ofMove(0, 5)", BAD_VALUE, x -> x.ofMove(0, 5));
        answers("ofArc(0, 0, 2)", BAD_VALUE, x -> x.ofArc(0, 0, 2));
        answers("trap(1, 4)", BAD_VALUE, x -> x.trap(1, 4));
        for (int bad : new int[] {-1, LEAST, MOST}) {
            answers("ofPlace(0, " + bad + ")", BAD_VALUE, x -> x.ofPlace(0, bad));
            answers("ofMove(0, " + bad + ")", BAD_VALUE, x -> x.ofMove(0, bad));
            answers("ofArc(0, 0, " + bad + ")", BAD_VALUE, x -> x.ofArc(0, 0, bad));
            answers("trap(1, " + bad + ")", BAD_VALUE, x -> x.trap(1, bad));
        }
        for (int bad : new int[] {-1, 10000, LEAST, MOST}) {
            answers("fewest(0, " + bad + ")", BAD_VALUE, x -> x.fewest(0, bad));
        }
    }

    private static void ofNothing() {
        ErrorsTest test = new ErrorsTest("nothing", TokenNets::new);
        test.values();
        test.numbers(0, 0);
        test.answers("carryOut()", BAD_TEXT, x -> x.carryOut());
        test.answers("undo()", NOT_POSSIBLE, x -> x.undo());
        test.answers("restore(0)", NOT_POSSIBLE, x -> x.restore(0));
        test.answers("restore(1)", NOT_POSSIBLE, x -> x.restore(1));
        test.answers("fault(), which is 0", 0, x -> x.fault());
    }

    private static void ofASmallNet() {
        ErrorsTest test = new ErrorsTest("a small net", ErrorsTest::small);
        test.values();
        test.numbers(3, 2);
        test.valuesOfThem();
        for (int bad : new int[] {-1, 3, 7, 9, LEAST, MOST}) {
            test.answers("kept(0, " + bad + ")", BAD_VALUE, x -> x.kept(0, bad));
        }
        test.answers("make(0), too few tokens", NOT_POSSIBLE, x -> x.make(0));
        test.answers("make(1), one too few", NOT_POSSIBLE, x -> x.make(1));
        test.answers("carryOut()", BAD_TEXT, x -> x.carryOut());
        test.answers("fewest(0, 2), NONE", NONE, x -> x.fewest(0, 2));
    }

    private static void ofAFullNet() {
        ErrorsTest test = new ErrorsTest("a full net", ErrorsTest::full);
        test.due.is("the length of the pad", full().count(5), 80);
        test.due.is("the history", full().count(6), 6);
        test.values();
        test.numbers(8, 8);
        test.valuesOfThem();
        test.answers("place(0)", TOO_MANY, x -> x.place(0));
        test.answers("place(999)", TOO_MANY, x -> x.place(999));
        test.answers("move()", TOO_MANY, x -> x.move());
        test.answers("put('1')", TOO_MANY, x -> x.put('1'));
        test.answers("put(eight)", TOO_MANY, x -> x.put(Due.packed(";p1;p2;m")));
        test.answers("make(2)", NOT_POSSIBLE, x -> x.make(2));
        test.answers("restore(0)", NOT_POSSIBLE, x -> x.restore(0));
    }

    private static void ofAVastNet() {
        ErrorsTest test = new ErrorsTest("a vast net", ErrorsTest::vast);
        test.values();
        test.numbers(2, 2);
        test.valuesOfThem();
        for (int what = 0; what < 3; what++) {
            int w = what;
            test.answers("reached(" + w + ")", TOO_MANY, x -> x.reached(w));
        }
        for (int what = 0; what < 4; what++) {
            int w = what;
            test.answers("growth(" + w + ")", TOO_MANY, x -> x.growth(w));
        }
        test.answers("fewest(0, 0), though it is so now", TOO_MANY, x -> x.fewest(0, 0));
        test.answers("fewest(0, 9999), though it is never so", TOO_MANY, x -> x.fewest(0, 9999));
        test.answers("bound(0)", TOO_MANY, x -> x.bound(0));
        test.answers("bound(1), though it is endless", TOO_MANY, x -> x.bound(1));
        test.answers("share(0), NONE", NONE, x -> x.share(0));
    }

    /** Where two errors of one call apply, the one that its promise names first is the answer. */
    private static void first() {
        Due due = new Due("conventions, the first error");
        TokenNets x = full();
        due.is("place(1000) with 8 places", x.place(1000), BAD_VALUE);
        due.is("place(-1) with 8 places", x.place(-1), BAD_VALUE);
        due.is("put(bad) with a full pad", x.put(32), BAD_VALUE);
        due.is("arc(8, 0, 10, 0)", x.arc(8, 0, 10, 0), NO_SUCH);
        due.is("arc(0, 8, 0, 10)", x.arc(0, 8, 0, 10), NO_SUCH);
        due.is("restore(2), nothing saved either", new TokenNets().restore(2), BAD_VALUE);
        due.is("share(0) without moves, none made either", new TokenNets().share(0), NO_SUCH);
        due.is("make(0) without moves", new TokenNets().make(0), NO_SUCH);
        TokenNets y = vast();
        due.is("fewest(2, 10000)", y.fewest(2, 10000), NO_SUCH);
        due.is("fewest(0, 10000)", y.fewest(0, 10000), BAD_VALUE);
        due.is("reached(3)", y.reached(3), BAD_VALUE);
        due.is("growth(4)", y.growth(4), BAD_VALUE);
        due.is("bound(2)", y.bound(2), NO_SUCH);
    }

    public static void main(String[] args) {
        ofNothing();
        ofASmallNet();
        ofAFullNet();
        ofAVastNet();
        first();
        Due.end();
    }
}
