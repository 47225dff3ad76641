/** No call throws or fails to end, whatever its arguments and the state are, also beyond the 512 calls of an object. */
public final class AnyCallTest {
    private static final int[] NUMBERS = {0, 1, 2, 3, 4, 5, 6, 7, 8, 9, -1, 10, 31, 32, 33, 63, 64, 80, 99, 100, 255, 256, 300, 999, 1000,
        9999, 10000, 65535, 1 << 30, Integer.MAX_VALUE - 1, Integer.MAX_VALUE, Integer.MIN_VALUE, Integer.MIN_VALUE + 1};

    private final Dice dice;
    private final TokenNets x = new TokenNets();

    private AnyCallTest(int seed) {
        dice = new Dice(seed);
    }

    /** Mostly a small number. */
    private int number() {
        return NUMBERS[dice.upTo(dice.upTo(3) > 0 ? 10 : NUMBERS.length)];
    }

    private long characters() {
        if (dice.upTo(4) == 0) {
            return dice.of(NUMBERS) * (dice.upTo(2) == 0 ? 1L : 1L << 32) + dice.of(NUMBERS);
        }
        String signs = "pm!=<>:;,*0123456789p0;m;!0;x~";
        long text = 0;
        for (int i = dice.upTo(8); i >= 0; i--) {
            text = text << 8 | signs.charAt(dice.upTo(signs.length()));
        }
        return text;
    }

    private long change() {
        switch (dice.upTo(13)) {
            case 0: return x.place(number());
            case 1: return x.move();
            case 2:
            case 3: return x.arc(number(), number(), number(), number());
            case 4: return x.tokens(number(), number());
            case 5: return x.make(number());
            case 6: return x.run(number(), number());
            case 7: return x.put(characters());
            case 8: return dice.upTo(4) == 0 ? x.wipe() : x.carryOut();
            case 9: return x.put(Due.packed(dice.upTo(2) == 0 ? "p3;m<0>1" : ";p0;m;!0"));
            case 10: return x.undo();
            case 11: return x.save(number());
            default: return dice.upTo(3) == 0 ? x.restore(number()) : x.fault();
        }
    }

    private long question() {
        switch (dice.upTo(13)) {
            case 0: return x.ofPlace(number(), number());
            case 1: return x.ofMove(number(), number());
            case 2: return x.ofArc(number(), number(), number());
            case 3: return x.count(number());
            case 4: return x.share(number());
            case 5: return x.mean(number());
            case 6: return x.kept(number(), number());
            case 7: return x.keptMany();
            case 8: return x.trap(number(), number());
            case 9: return x.reached(number());
            case 10: return x.fewest(number(), number());
            case 11: return x.growth(number());
            default: return x.bound(number());
        }
    }

    public static void main(String[] args) {
        Due due = new Due("any call");
        for (int seed = 1; seed <= 60; seed++) {
            AnyCallTest test = new AnyCallTest(seed);
            for (int call = 0; call < 3000; call++) {
                long answer = call % 3 == 0 ? test.question() : test.change();
                due.is("an answer that no promise names, seed " + seed + ", call " + call, answer < -6 ? answer : 0, 0);
            }
        }
        Due.end();
    }
}
