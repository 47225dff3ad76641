/** What an object answers, as a text, so that two objects can be compared as a whole. */
final class Answers {
    private Answers() {
    }

    /** All that can be asked without a change, in some 280 calls. */
    static String all(TokenNets x) {
        StringBuilder told = new StringBuilder();
        for (int p = 0; p < 8; p++) {
            told.append("\nplace ").append(p);
            for (int what = 0; what < 4; what++) {
                told.append(' ').append(x.ofPlace(p, what));
            }
            told.append(' ').append(x.bound(p)).append(' ').append(x.fewest(p, 3));
        }
        for (int m = 0; m < 8; m++) {
            told.append("\nmove ").append(m).append(' ').append(x.share(m));
            for (int what = 0; what < 5; what++) {
                told.append(' ').append(x.ofMove(m, what));
            }
            for (int p = 0; p < 8; p++) {
                told.append(' ').append(x.ofArc(m, p, 0)).append('/').append(x.ofArc(m, p, 1));
            }
        }
        told.append("\nsums ").append(x.keptMany());
        for (int what = 0; what < 9; what++) {
            told.append(' ').append(x.kept(0, what)).append('/').append(x.kept(1, what));
        }
        for (int what = 0; what < 4; what++) {
            told.append("\nby number ").append(x.growth(what)).append(' ').append(x.reached(what));
            told.append(' ').append(x.trap((1 << x.count(0)) - 1, what)).append(' ').append(x.mean(what));
        }
        return told.append(brief(x)).append(" fault ").append(x.fault()).toString();
    }

    /** The counts, the tokens, and how often each move was made, in some 30 calls. */
    static String brief(TokenNets x) {
        StringBuilder told = new StringBuilder("\ncounts");
        for (int what = 0; what < 7; what++) {
            told.append(' ').append(x.count(what));
        }
        for (int p = 0; p < 8; p++) {
            told.append(' ').append(x.ofPlace(p, 0)).append('/').append(x.ofPlace(p, 3));
        }
        for (int m = 0; m < 8; m++) {
            told.append(' ').append(x.ofMove(m, 1));
        }
        return told.toString();
    }

    /** The history, the slots and the pad, which only changes bring to light, in some 350 calls. */
    static String hidden(TokenNets x) {
        StringBuilder told = new StringBuilder();
        for (int i = 0; i < 7; i++) {
            told.append("\nundo ").append(x.undo()).append(brief(x));
        }
        told.append("\nslot 0 ").append(x.restore(0)).append(brief(x));
        told.append("\nslot 1 ").append(x.restore(1)).append(brief(x));
        told.append("\npad ").append(x.fault()).append(' ').append(x.carryOut()).append(brief(x));
        return told.toString();
    }
}
