import java.util.TreeMap;

/** Many small nets: all that can be asked of each is asked of TokenNets and of PlainNets. */
public final class NetsTest {
    private final Dice dice;
    private final int kind;
    private final TokenNets real = new TokenNets();
    private final PlainNets plain = new PlainNets();
    private final StringBuilder story = new StringBuilder();
    private boolean right = true;
    // How often an answer that is neither an error nor trivial was seen, so that the nets are known to tell something.
    private static final TreeMap<String, Integer> seen = new TreeMap<>();

    private NetsTest(int seed) {
        dice = new Dice(seed);
        kind = seed % 4;
    }

    private void same(String call, long got, long want) {
        if (got != want && right) {
            right = false;
            System.out.println(story + call + " answered " + got + ", due is " + want);
        }
        if (got > 1) {
            seen.merge(call.substring(0, call.indexOf('(')), 1, Integer::sum);
        }
    }

    private void place(int tokens) {
        story.append("place(").append(tokens).append(")\n");
        same("place()", real.place(tokens), plain.place(tokens));
    }

    private void arc(int m, int p, int takes, int gives) {
        story.append("arc(" + m + ", " + p + ", " + takes + ", " + gives + ")\n");
        same("arc()", real.arc(m, p, takes, gives), plain.arc(m, p, takes, gives));
    }

    private void build() {
        int places = 1 + dice.upTo(kind == 3 ? 8 : 5);
        int moves = 1 + dice.upTo(kind == 3 ? 8 : 4);
        for (int p = 0; p < places; p++) {
            place(dice.of(0, 0, 1, 2, 5));
        }
        for (int m = 0; m < moves; m++) {
            story.append("move()\n");
            same("move()", real.move(), plain.move());
            if (kind == 0) {
                handOn(m, places, 0);
            } else if (kind == 1) {
                handOn(m, places, dice.of(-1, 0, 0, 0, 1));
            } else {
                for (int p = 0; p < places; p++) {
                    arc(m, p, dice.of(0, 0, 1, 1, 2, 3), dice.of(0, 0, 1, 1, 2, 3));
                }
            }
        }
    }

    /** A move that takes from two places and gives to two, so many more than it takes. */
    private void handOn(int m, int places, int more) {
        int[] takes = new int[places];
        int[] gives = new int[places];
        int many = 1 + dice.upTo(3);
        for (int i = 0; i < many; i++) {
            takes[dice.upTo(places)]++;
        }
        for (int i = 0; i < many + more; i++) {
            gives[dice.upTo(places)]++;
        }
        for (int p = 0; p < places; p++) {
            arc(m, p, takes[p], gives[p]);
        }
    }

    private void askAll() {
        int places = real.count(0);
        for (int what = 0; what < 4; what++) {
            same("reached(" + what + ")", real.reached(what), plain.reached(what));
            same("growth(" + what + ")", real.growth(what), plain.growth(what));
        }
        for (int p = 0; p < places; p++) {
            same("bound(" + p + ")", real.bound(p), plain.bound(p));
            for (int t = 0; t < 6; t++) {
                same("fewest(" + p + ", " + t + ")", real.fewest(p, t), plain.fewest(p, t));
            }
        }
        same("keptMany()", real.keptMany(), plain.keptMany());
        int sums = Math.min(plain.keptMany(), 6);
        for (int s = 0; s <= sums; s++) {
            for (int what = 0; what <= 8; what++) {
                same("kept(" + s + ", " + what + ")", real.kept(s, what), plain.kept(s, what));
            }
        }
        for (int i = 0; i < 16; i++) {
            int set = dice.upTo(1 << places);
            same("trap(" + set + ", " + i % 4 + ")", real.trap(set, i % 4), plain.trap(set, i % 4));
        }
        same("count(3)", real.count(3), plain.count(3));
    }

    private boolean holds() {
        build();
        askAll();
        int seed = dice.upTo(1 << 30);
        story.append("run(" + seed + ", 3)\n");
        same("run()", real.run(seed, 3), plain.run(seed, 3));
        askAll();
        same("undo()", real.undo(), plain.undo());
        same("reached(0) after undo", real.reached(0), plain.reached(0));
        same("growth(0) after undo", real.growth(0), plain.growth(0));
        return right;
    }

    public static void main(String[] args) {
        int first = args.length > 0 ? Integer.parseInt(args[0]) : 1;
        int many = args.length > 1 ? Integer.parseInt(args[1]) : 2500;
        int wrong = 0;
        for (int seed = first; seed < first + many && wrong < 3; seed++) {
            if (!new NetsTest(seed).holds()) {
                System.out.println("net " + seed + " is not as due");
                wrong++;
            }
        }
        for (String call : new String[] {"reached", "fewest", "growth", "bound", "kept", "keptMany", "trap"}) {
            if (seen.getOrDefault(call, 0) < many / 10) {
                System.out.println("too few answers of " + call + "() say something: " + seen);
                wrong++;
            }
        }
        System.exit(wrong == 0 ? 0 : 1);
    }
}
