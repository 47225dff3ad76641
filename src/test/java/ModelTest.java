/** Long runs of calls on TokenNets and on PlainNets, which have to give the same answers. */
public final class ModelTest {
    private static final int CALLS = 512;

    private final Dice dice;
    private final TokenNets real = new TokenNets();
    private final PlainNets plain = new PlainNets();
    private final StringBuilder story = new StringBuilder();
    // Style 3 has big numbers; the others differ in how long they mostly change things.
    private final int style;

    private ModelTest(int seed) {
        dice = new Dice(seed);
        style = seed % 4;
    }

    private boolean same(String call, long got, long want) {
        story.append(call).append(" = ").append(got).append('\n');
        if (got != want) {
            System.out.println(story + "due is " + want);
        }
        return got == want;
    }

    /** A number of a place or a move: seldom a wrong one. */
    private int number(int many) {
        if (dice.upTo(20) == 0) {
            return dice.of(-1, many, 8, 9, Integer.MAX_VALUE, Integer.MIN_VALUE);
        }
        return dice.upTo(Math.max(1, many));
    }

    private int what(int most) {
        return dice.upTo(25) == 0 ? dice.of(-1, most + 1, Integer.MAX_VALUE, Integer.MIN_VALUE) : dice.upTo(most + 1);
    }

    private int tokens() {
        if (dice.upTo(30) == 0) {
            return dice.of(-1, 1000, 999, Integer.MAX_VALUE, Integer.MIN_VALUE);
        }
        return style == 3 ? dice.upTo(1000) : dice.upTo(4);
    }

    private int arcTokens() {
        if (dice.upTo(60) == 0) {
            return dice.of(-1, 10, 9);
        }
        return style == 3 ? dice.upTo(10) : dice.of(0, 0, 0, 1, 1, 1, 2, 3);
    }

    private boolean change() {
        int places = real.count(0);
        int moves = real.count(1);
        int p = number(places);
        int m = number(moves);
        switch (dice.upTo(16)) {
            case 0: {
                int t = tokens();
                return places > dice.upTo(9) || same("place(" + t + ")", real.place(t), plain.place(t));
            }
            case 1: return moves > dice.upTo(9) || same("move()", real.move(), plain.move());
            case 2:
            case 3:
            case 4:
            case 5:
            case 6: {
                int t = arcTokens();
                int g = arcTokens();
                return same("arc(" + m + ", " + p + ", " + t + ", " + g + ")", real.arc(m, p, t, g), plain.arc(m, p, t, g));
            }
            case 7: {
                int t = tokens();
                return same("tokens(" + p + ", " + t + ")", real.tokens(p, t), plain.tokens(p, t));
            }
            case 8:
            case 9: return same("make(" + m + ")", real.make(m), plain.make(m));
            case 10: {
                int seed = dice.upTo(10) == 0 ? dice.of(-1, 0, Integer.MAX_VALUE, Integer.MIN_VALUE) : dice.upTo(1 << 30);
                int many = dice.upTo(10) == 0 ? dice.of(-1, 0, 99, 100) : 1 + dice.upTo(9);
                return same("run(" + seed + ", " + many + ")", real.run(seed, many), plain.run(seed, many));
            }
            case 11: return same("undo()", real.undo(), plain.undo());
            case 12: {
                int slot = dice.of(0, 1, 0, 1, 2, -1);
                return same("save(" + slot + ")", real.save(slot), plain.save(slot));
            }
            case 13: {
                int slot = dice.of(0, 1, 0, 1, 2, -1);
                return dice.upTo(3) > 0 || same("restore(" + slot + ")", real.restore(slot), plain.restore(slot));
            }
            default: return text();
        }
    }

    private boolean text() {
        String orders = orders();
        for (int i = 0; i < orders.length(); i += 8) {
            long packed = Due.packed(orders.substring(i, Math.min(i + 8, orders.length())));
            if (!same("put(" + packed + "L)", real.put(packed), plain.put(packed))) {
                return false;
            }
        }
        if (dice.upTo(40) == 0) {
            long odd = dice.of(0, 1, 32, 127, 256, 0x4100, 0x410041, -1, 0x8041) * (dice.upTo(2) == 0 ? 1L : 1L << 32);
            if (!same("put(" + odd + "L)", real.put(odd), plain.put(odd))) {
                return false;
            }
        }
        if (!same("fault()", real.fault(), plain.fault())) {
            return false;
        }
        if (dice.upTo(8) == 0 && !same("wipe()", real.wipe(), plain.wipe())) {
            return false;
        }
        if (dice.upTo(5) > 0 && !same("carryOut()", real.carryOut(), plain.carryOut())) {
            return false;
        }
        return dice.upTo(2) > 0 || same("wipe()", real.wipe(), plain.wipe());
    }

    private String orders() {
        StringBuilder text = new StringBuilder();
        int many = dice.upTo(6);
        for (int i = 0; i <= many; i++) {
            if (i > 0) {
                text.append(';');
            }
            order(text);
        }
        if (dice.upTo(4) == 0 && text.length() > 0) {
            text.setCharAt(dice.upTo(text.length()), "p m<>!=:;,*0123456789x~".replace(" ", "").charAt(dice.upTo(22)));
        }
        if (dice.upTo(10) == 0) {
            text.setLength(dice.upTo(text.length() + 1));
        }
        return text.toString();
    }

    private void order(StringBuilder text) {
        switch (dice.upTo(5)) {
            case 0: text.append('p').append(dice.of(0, 1, 2, 9, 10, 99, 100, 999, 1000)); break;
            case 1: text.append('!').append(number(real.count(1)) & 15); break;
            case 2: text.append('=').append(number(real.count(0)) & 15).append(':').append(dice.of(0, 1, 2, 3, 12, 999, 1000)); break;
            default:
                text.append('m');
                if (dice.upTo(3) > 0) {
                    list(text.append('<'));
                }
                if (dice.upTo(3) > 0) {
                    list(text.append('>'));
                }
                break;
        }
    }

    private void list(StringBuilder text) {
        int many = dice.upTo(3);
        for (int i = 0; i <= many; i++) {
            text.append(i > 0 ? "," : "").append(number(real.count(0)) & 15);
            if (dice.upTo(4) == 0) {
                text.append('*').append(dice.upTo(style == 3 ? 10 : 3));
            }
        }
    }

    private boolean question() {
        int places = real.count(0);
        int p = number(places);
        int m = number(real.count(1));
        int w;
        switch (dice.upTo(14)) {
            case 0: w = what(3); return same("ofPlace(" + p + ", " + w + ")", real.ofPlace(p, w), plain.ofPlace(p, w));
            case 1: w = what(4); return same("ofMove(" + m + ", " + w + ")", real.ofMove(m, w), plain.ofMove(m, w));
            case 2: w = what(1); return same("ofArc(" + m + ", " + p + ", " + w + ")", real.ofArc(m, p, w), plain.ofArc(m, p, w));
            case 3: w = what(6); return same("count(" + w + ")", real.count(w), plain.count(w));
            case 4: return same("share(" + m + ")", real.share(m), plain.share(m));
            case 5: w = what(1); return same("mean(" + w + ")", real.mean(w), plain.mean(w));
            case 6: {
                int sum = number(real.keptMany());
                w = what(8);
                return same("kept(" + sum + ", " + w + ")", real.kept(sum, w), plain.kept(sum, w));
            }
            case 7: return same("keptMany()", real.keptMany(), plain.keptMany());
            case 8: {
                int set = number(1 << places);
                w = what(3);
                return same("trap(" + set + ", " + w + ")", real.trap(set, w), plain.trap(set, w));
            }
            case 9: w = what(2); return same("reached(" + w + ")", real.reached(w), plain.reached(w));
            case 10: {
                int t = dice.upTo(30) == 0 ? dice.of(-1, 10000, 9999) : dice.upTo(12);
                return same("fewest(" + p + ", " + t + ")", real.fewest(p, t), plain.fewest(p, t));
            }
            case 11:
            case 12: w = what(3); return same("growth(" + w + ")", real.growth(w), plain.growth(w));
            default: return same("bound(" + p + ")", real.bound(p), plain.bound(p));
        }
    }

    private boolean runs() {
        for (int i = 0; i < CALLS; i++) {
            boolean early = i < 30 + 20 * style;
            if (!(dice.upTo(100) < (early ? 90 : 30) ? change() : question())) {
                return false;
            }
        }
        return true;
    }

    public static void main(String[] args) {
        int first = args.length > 0 ? Integer.parseInt(args[0]) : 1;
        int many = args.length > 1 ? Integer.parseInt(args[1]) : 120;
        int wrong = 0;
        for (int seed = first; seed < first + many && wrong < 3; seed++) {
            if (!new ModelTest(seed).runs()) {
                System.out.println("run " + seed + " is not as due");
                wrong++;
            }
        }
        System.exit(wrong == 0 ? 0 : 1);
    }
}
