import java.util.Arrays;

/**
 * Nets of tokens on places, and of moves that take and give them.
 * Each answer of -1 to -5 is an error, and changes nothing.
 */
public final class TokenNets {
    public static final int NO_SUCH = -1, BAD_VALUE = -2, BAD_TEXT = -3, TOO_MANY = -4, NOT_POSSIBLE = -5, NONE = -6;

    private static final int SIZE = 8;
    private static final int MOST_SET = 999;
    private static final int MOST_HELD = 99999;
    private static final int MOST_MARKINGS = 300;
    // Above each count that a growth tree of 300 nodes can come to, and far below an int's end.
    private static final int ENDLESS = 1 << 30;
    // Above what an endless place can have given to it, so that no move is held back.
    private static final int NO_BOUND = ENDLESS + 9;

    private final Net net;
    private final History history;
    private final Net[] slots;
    private final boolean[] saved;
    private final Pad pad;
    private final Sums sums;
    private final Reach reach;
    private final Tree tree;

    public TokenNets() {
        net = new Net();
        history = new History();
        slots = new Net[] {new Net(), new Net()};
        saved = new boolean[2];
        pad = new Pad();
        sums = new Sums();
        reach = new Reach();
        tree = new Tree();
    }

    // ---- changes

    public int place(int tokens) {
        history.note(net);
        return history.settle(net.addPlace(tokens));
    }

    public int move() {
        history.note(net);
        return history.settle(net.addMove());
    }

    public int arc(int move, int place, int takes, int gives) {
        history.note(net);
        return history.settle(net.setArc(move, place, takes, gives));
    }

    public int tokens(int place, int tokens) {
        history.note(net);
        return history.settle(net.setTokens(place, tokens));
    }

    public int make(int move) {
        history.note(net);
        return history.settle(net.makeOne(move));
    }

    public int run(int seed, int many) {
        history.note(net);
        return history.settle(net.makeBySeed(seed, many));
    }

    // ---- what there is

    public int ofPlace(int place, int what) {
        if (!net.hasPlace(place)) {
            return NO_SUCH;
        }
        switch (what) {
            case 0: return net.tokens[place];
            case 1: return net.movesAt(net.takes, place);
            case 2: return net.movesAt(net.gives, place);
            case 3: return net.most[place];
            default: return BAD_VALUE;
        }
    }

    public int ofMove(int move, int what) {
        if (!net.hasMove(move)) {
            return NO_SUCH;
        }
        switch (what) {
            case 0: return net.canMake(move) ? 1 : 0;
            case 1: return net.made[move];
            case 2: return net.placesOf(net.takes, move);
            case 3: return net.placesOf(net.gives, move);
            case 4: return net.surplus(move) + 100;
            default: return BAD_VALUE;
        }
    }

    public int ofArc(int move, int place, int what) {
        if (!net.hasMove(move) || !net.hasPlace(place)) {
            return NO_SUCH;
        }
        switch (what) {
            case 0: return net.takes[move * SIZE + place];
            case 1: return net.gives[move * SIZE + place];
            default: return BAD_VALUE;
        }
    }

    public int count(int what) {
        switch (what) {
            case 0: return net.places;
            case 1: return net.moves;
            case 2: return net.allTokens();
            case 3: return net.possibleMoves();
            case 4: return net.allMade();
            case 5: return pad.length;
            case 6: return history.many;
            default: return BAD_VALUE;
        }
    }

    public int share(int move) {
        if (!net.hasMove(move)) {
            return NO_SUCH;
        }
        int all = net.allMade();
        if (all <= 0) {
            return NONE;
        }
        return Bits.ofFloat((float) ((double) net.made[move] / (double) all));
    }

    public long mean(int what) {
        if (what != 0 && what != 1) {
            return BAD_VALUE;
        }
        if (net.places <= 0) {
            return 0;
        }
        double mean = (double) net.allTokens() / (double) net.places;
        return Bits.ofDouble(what == 0 ? mean : mean - (double) (long) mean);
    }

    // ---- kept sums, traps, drains

    public int kept(int sum, int what) {
        sums.find(net);
        if (sum < 0 || sum >= sums.many) {
            return NO_SUCH;
        }
        if (what == SIZE) {
            return sums.worth(sum, net.tokens);
        }
        return net.hasPlace(what) ? sums.weight(sum, what) : BAD_VALUE;
    }

    public int keptMany() {
        sums.find(net);
        return sums.many;
    }

    public int trap(int places, int what) {
        if (places < 0 || places >= 1 << net.places) {
            return NO_SUCH;
        }
        switch (what) {
            case 0: return net.greatestClosed(places, net.takes, net.gives);
            case 1: return net.greatestClosed(places, net.gives, net.takes);
            case 2: return net.tokensIn(net.greatestClosed(places, net.takes, net.gives));
            case 3: return net.tokensIn(net.greatestClosed(places, net.gives, net.takes));
            default: return BAD_VALUE;
        }
    }

    // ---- what can be reached; nothing changes

    public int reached(int what) {
        if (what < 0 || what > 2) {
            return BAD_VALUE;
        }
        reach.find(net);
        if (reach.marks.tooMany) {
            return TOO_MANY;
        }
        switch (what) {
            case 0: return reach.marks.many;
            case 1: return reach.dead;
            default: return reach.marks.possible;
        }
    }

    public int fewest(int place, int tokens) {
        if (!net.hasPlace(place)) {
            return NO_SUCH;
        }
        if (tokens < 0 || tokens > 9999) {
            return BAD_VALUE;
        }
        reach.find(net);
        return reach.marks.tooMany ? TOO_MANY : reach.fewestMoves(place, tokens);
    }

    public int growth(int what) {
        if (what < 0 || what > 3) {
            return BAD_VALUE;
        }
        tree.find(net);
        if (tree.marks.tooMany) {
            return TOO_MANY;
        }
        switch (what) {
            case 0: return tree.marks.many;
            case 1: return tree.endlessPlaces();
            case 2: return tree.marks.possible;
            default: return tree.deepest;
        }
    }

    public int bound(int place) {
        if (!net.hasPlace(place)) {
            return NO_SUCH;
        }
        tree.find(net);
        if (tree.marks.tooMany) {
            return TOO_MANY;
        }
        int most = tree.mostTokens(place);
        return most == ENDLESS ? NONE : most;
    }

    // ---- texts

    public int put(long characters) {
        return pad.append(characters);
    }

    public int wipe() {
        int before = pad.length;
        pad.length = 0;
        return before;
    }

    public int fault() {
        return pad.firstFault();
    }

    public int carryOut() {
        if (pad.firstFault() != NONE) {
            return BAD_TEXT;
        }
        history.note(net);
        int done = 0;
        int at = 0;
        for (int i = 0; i < Pad.ROOM && at < pad.length; i++) {
            if (carryOrder(at) < 0) {
                break;
            }
            done++;
            at = pad.orderEnd(at) + 1;
        }
        pad.length = 0;
        return history.settle(done);
    }

    /** Carries the order that begins there out; the pad has no fault. */
    private int carryOrder(int at) {
        switch (pad.sign(at)) {
            case 'p': return net.addPlace(pad.number(at + 1));
            case 'm': return carryMove(at + 1, pad.orderEnd(at));
            case '!': return net.makeOne(pad.digit(at + 1));
            default: return net.setTokens(pad.digit(at + 1), pad.number(at + 3));
        }
    }

    private int carryMove(int from, int end) {
        // No move may come if a place is missing, so all places are looked at before.
        for (int i = from; i < end; i++) {
            if (pad.namesPlace(i) && !net.hasPlace(pad.digit(i))) {
                return NO_SUCH;
            }
        }
        int move = net.addMove();
        int[] side = net.takes;
        for (int i = from; i < end && move >= 0; i++) {
            if (pad.sign(i) == '>') {
                side = net.gives;
            }
            if (pad.namesPlace(i)) {
                side[move * SIZE + pad.digit(i)] = pad.times(i);
            }
        }
        return move;
    }

    // ---- undo, saving

    public int undo() {
        return history.takeBack(net);
    }

    public int save(int slot) {
        if (slot != 0 && slot != 1) {
            return BAD_VALUE;
        }
        slots[slot].copy(net);
        saved[slot] = true;
        return net.allTokens();
    }

    public int restore(int slot) {
        if (slot != 0 && slot != 1) {
            return BAD_VALUE;
        }
        if (!saved[slot]) {
            return NOT_POSSIBLE;
        }
        history.note(net);
        net.copy(slots[slot]);
        return history.settle(net.allTokens());
    }

    /**
     * The places and moves with all that undo and restore bring back.
     * Rows have room for all eight; what has not come yet is 0 there.
     */
    private static final class Net {
        int places;
        int moves;
        final int[] tokens = new int[SIZE];
        final int[] most = new int[SIZE];
        final int[] made = new int[SIZE];
        // One number for each move and place, those of one move side by side.
        final int[] takes = new int[SIZE * SIZE];
        final int[] gives = new int[SIZE * SIZE];

        void copy(Net other) {
            places = other.places;
            moves = other.moves;
            System.arraycopy(other.tokens, 0, tokens, 0, SIZE);
            System.arraycopy(other.most, 0, most, 0, SIZE);
            System.arraycopy(other.made, 0, made, 0, SIZE);
            System.arraycopy(other.takes, 0, takes, 0, SIZE * SIZE);
            System.arraycopy(other.gives, 0, gives, 0, SIZE * SIZE);
        }

        boolean sameArcs(Net other) {
            if (places != other.places || moves != other.moves) {
                return false;
            }
            for (int i = 0; i < SIZE * SIZE; i++) {
                if (takes[i] != other.takes[i] || gives[i] != other.gives[i]) {
                    return false;
                }
            }
            return true;
        }

        boolean sameMarking(Net other) {
            for (int p = 0; p < SIZE; p++) {
                if (tokens[p] != other.tokens[p]) {
                    return false;
                }
            }
            return true;
        }

        boolean hasPlace(int place) {
            return place >= 0 && place < places && place < SIZE;
        }

        boolean hasMove(int move) {
            return move >= 0 && move < moves && move < SIZE;
        }

        int addPlace(int count) {
            if (count < 0 || count > MOST_SET) {
                return BAD_VALUE;
            }
            if (places >= SIZE) {
                return TOO_MANY;
            }
            tokens[places] = count;
            most[places] = count;
            places++;
            return places - 1;
        }

        int addMove() {
            if (moves >= SIZE) {
                return TOO_MANY;
            }
            moves++;
            return moves - 1;
        }

        int setArc(int move, int place, int taken, int given) {
            if (!hasMove(move) || !hasPlace(place)) {
                return NO_SUCH;
            }
            if (taken < 0 || taken > 9 || given < 0 || given > 9) {
                return BAD_VALUE;
            }
            int arc = move * SIZE + place;
            int before = 10 * takes[arc] + gives[arc];
            takes[arc] = taken;
            gives[arc] = given;
            return before;
        }

        int setTokens(int place, int count) {
            if (!hasPlace(place)) {
                return NO_SUCH;
            }
            if (count < 0 || count > MOST_SET) {
                return BAD_VALUE;
            }
            int before = tokens[place];
            tokens[place] = count;
            most[place] = count;
            return before;
        }

        int makeOne(int move) {
            if (!hasMove(move)) {
                return NO_SUCH;
            }
            if (!canMake(move)) {
                return NOT_POSSIBLE;
            }
            carry(move);
            return Integer.bitCount(possibleMoves());
        }

        int makeBySeed(int seed, int many) {
            if (seed < 0 || many < 1 || many > 99) {
                return BAD_VALUE;
            }
            long x = seed;
            for (int done = 0; done < many; done++) {
                int possible = possibleMoves();
                int choices = Integer.bitCount(possible);
                if (choices == 0) {
                    return done;
                }
                x = (x * 1103515245L + 12345L) % 2147483648L;
                carry(memberAt(possible, (int) (x / 65536L % choices)));
            }
            return many;
        }

        /** The member of a set before which there are so many others. */
        private static int memberAt(int set, int before) {
            int left = before;
            for (int member = 0; member < SIZE; member++) {
                if ((set >> member & 1) != 0) {
                    if (left == 0) {
                        return member;
                    }
                    left--;
                }
            }
            return 0;
        }

        private void carry(int move) {
            step(tokens, 0, move, tokens);
            made[move]++;
            for (int p = 0; p < SIZE; p++) {
                most[p] = Math.max(most[p], tokens[p]);
            }
        }

        boolean canMake(int move) {
            return allows(tokens, 0, move, MOST_HELD);
        }

        /** Whether the move can be made at the marking that begins there in the row. */
        boolean allows(int[] row, int from, int move, int mostHeld) {
            for (int p = 0; p < SIZE; p++) {
                int left = row[from + p] - takes[move * SIZE + p];
                if (left < 0 || left + gives[move * SIZE + p] > mostHeld) {
                    return false;
                }
            }
            return true;
        }

        /** Writes the marking behind the move; an endless place stays endless. */
        void step(int[] row, int from, int move, int[] behind) {
            for (int p = 0; p < SIZE; p++) {
                int had = row[from + p];
                int arc = move * SIZE + p;
                behind[p] = had == ENDLESS ? ENDLESS : had - takes[arc] + gives[arc];
            }
        }

        int possibleMoves() {
            int set = 0;
            for (int m = 0; m < moves; m++) {
                if (canMake(m)) {
                    set |= 1 << m;
                }
            }
            return set;
        }

        int allTokens() {
            return tokensIn((1 << SIZE) - 1);
        }

        int tokensIn(int set) {
            int sum = 0;
            for (int p = 0; p < SIZE; p++) {
                if ((set >> p & 1) != 0) {
                    sum += tokens[p];
                }
            }
            return sum;
        }

        int allMade() {
            int sum = 0;
            for (int m = 0; m < SIZE; m++) {
                sum += made[m];
            }
            return sum;
        }

        int movesAt(int[] side, int place) {
            int set = 0;
            for (int m = 0; m < SIZE; m++) {
                if (side[m * SIZE + place] > 0) {
                    set |= 1 << m;
                }
            }
            return set;
        }

        int placesOf(int[] side, int move) {
            int set = 0;
            for (int p = 0; p < SIZE; p++) {
                if (side[move * SIZE + p] > 0) {
                    set |= 1 << p;
                }
            }
            return set;
        }

        int surplus(int move) {
            int sum = 0;
            for (int p = 0; p < SIZE; p++) {
                sum += gives[move * SIZE + p] - takes[move * SIZE + p];
            }
            return sum;
        }

        /**
         * The greatest part of a set such that each move with a first arc at the part
         * has an other arc at it, too. With takes first it is a trap, with gives a drain.
         */
        int greatestClosed(int set, int[] first, int[] other) {
            int part = set;
            // Each round but the last one drops a place.
            for (int round = 0; round <= SIZE; round++) {
                int before = part;
                for (int m = 0; m < moves; m++) {
                    if ((placesOf(other, m) & part) == 0) {
                        part &= ~placesOf(first, m);
                    }
                }
                if (part == before) {
                    return part;
                }
            }
            return part;
        }
    }

    /** The states before the latest changes. */
    private static final class History {
        private static final int DEPTH = 6;
        // One more than can be undone: a state is noted before its change is known to succeed.
        private static final int ROWS = DEPTH + 1;

        private final Net[] rows = new Net[ROWS];
        private int next;
        int many;

        History() {
            for (int i = 0; i < ROWS; i++) {
                rows[i] = new Net();
            }
        }

        void note(Net net) {
            rows[next].copy(net);
        }

        /** Keeps the noted state unless the answer of the change is an error; hands the answer on. */
        int settle(int answer) {
            if (answer >= 0) {
                next = (next + 1) % ROWS;
                many = Math.min(many + 1, DEPTH);
            }
            return answer;
        }

        int takeBack(Net net) {
            if (many <= 0) {
                return NOT_POSSIBLE;
            }
            many--;
            next = (next + ROWS - 1) % ROWS;
            net.copy(rows[next]);
            return many;
        }
    }

    /** The bits of floating numbers that are 0 or above, and not tiny. */
    private static final class Bits {
        /** The bits of a number from 0 to 1. */
        static int ofFloat(float value) {
            if (value <= 0f) {
                return 0;
            }
            float scaled = value;
            int exponent = 127;
            for (int i = 0; i < 126 && scaled < 1f; i++) {
                scaled = scaled * 2f;
                exponent--;
            }
            return (exponent << 23) + (int) ((scaled - 1f) * 8388608f);
        }

        static long ofDouble(double value) {
            if (value <= 0.0) {
                return 0;
            }
            double scaled = value;
            long exponent = 1023;
            for (int i = 0; i < 1022 && scaled < 1.0; i++) {
                scaled = scaled * 2.0;
                exponent--;
            }
            for (int i = 0; i < 1023 && scaled >= 2.0; i++) {
                scaled = scaled / 2.0;
                exponent++;
            }
            return (exponent << 52) + (long) ((scaled - 1.0) * 4503599627370496.0);
        }
    }

    /** The smallest kept sums of a net; they are looked for anew only when its arcs are others. */
    private static final class Sums {
        private static final int MOST_WEIGHT = 3;

        private final Net seen = new Net();
        private boolean known;
        // For each move and place, what it gives less what it takes.
        private final int[] gains = new int[SIZE * SIZE];
        private final int[] balances = new int[SIZE];
        private final int[] weights = new int[SIZE];
        // For each set of places, whether it or a part of it carries a kept sum.
        private final boolean[] covered = new boolean[1 << SIZE];
        // Two bits a weight, that of the place 0 highest, so that they are in order as numbers.
        private int[] found = new int[64];
        int many;

        int weight(int sum, int place) {
            return found[sum] >> 2 * (SIZE - 1 - place) & 3;
        }

        int worth(int sum, int[] tokens) {
            int worth = 0;
            for (int p = 0; p < SIZE; p++) {
                worth += weight(sum, p) * tokens[p];
            }
            return worth;
        }

        void find(Net net) {
            if (known && seen.sameArcs(net)) {
                return;
            }
            seen.copy(net);
            known = true;
            many = 0;
            for (int i = 0; i < SIZE * SIZE; i++) {
                gains[i] = net.gives[i] - net.takes[i];
            }
            // Each part of a set is a lesser number, so it has had its turn before.
            for (int set = 1; set < 1 << net.places; set++) {
                covered[set] = hasCoveredPart(set);
                if (!covered[set]) {
                    weigh(this, set, 0);
                }
            }
        }

        private boolean hasCoveredPart(int set) {
            for (int p = 0; p < SIZE; p++) {
                if ((set >> p & 1) != 0 && covered[set ^ 1 << p]) {
                    return true;
                }
            }
            return false;
        }

        /** Tries all weights above 0 for the set's places from this one on. */
        private static void weigh(Sums sums, int set, int place) {
            if (!sums.canBalance(set, place)) {
                return;
            }
            if (place >= SIZE) {
                sums.covered[set] = true;
                sums.keep();
                return;
            }
            if ((set >> place & 1) == 0) {
                weigh(sums, set, place + 1);
                return;
            }
            for (int weight = 1; weight <= MOST_WEIGHT; weight++) {
                sums.balance(place, weight);
                weigh(sums, set, place + 1);
            }
            sums.balance(place, 0);
        }

        private void balance(int place, int weight) {
            int more = weight - weights[place];
            weights[place] = weight;
            for (int m = 0; m < SIZE; m++) {
                balances[m] += more * gains[m * SIZE + place];
            }
        }

        /** Whether the set's places from this one on may still bring each move's balance to 0. */
        private boolean canBalance(int set, int place) {
            for (int m = 0; m < SIZE; m++) {
                int least = balances[m];
                int most = least;
                for (int p = place; p < SIZE; p++) {
                    if ((set >> p & 1) != 0) {
                        int gain = gains[m * SIZE + p];
                        least += gain < 0 ? MOST_WEIGHT * gain : gain;
                        most += gain < 0 ? gain : MOST_WEIGHT * gain;
                    }
                }
                if (least > 0 || most < 0) {
                    return false;
                }
            }
            return true;
        }

        private void keep() {
            if (allDividedBy(2) || allDividedBy(3)) {
                return;
            }
            if (many >= found.length) {
                found = Arrays.copyOf(found, 2 * found.length);
            }
            int sum = 0;
            for (int p = 0; p < SIZE; p++) {
                sum = sum << 2 | weights[p];
            }
            int at = many;
            for (; at > 0 && found[at - 1] > sum; at--) {
                found[at] = found[at - 1];
            }
            found[at] = sum;
            many++;
        }

        private boolean allDividedBy(int divisor) {
            for (int p = 0; p < SIZE; p++) {
                if (weights[p] % divisor != 0) {
                    return false;
                }
            }
            return true;
        }
    }

    /** Markings that are found one by one, from that of now on; at most 300 of them. */
    private static final class Marks {
        // The net that they are of.
        final Net net = new Net();
        private boolean known;
        // Eight numbers for each marking.
        final int[] rows = new int[MOST_MARKINGS * SIZE];
        // The marking that may be taken in next.
        final int[] next = new int[SIZE];
        int many;
        boolean tooMany;
        int possible;

        /** Begins anew with the marking of now as the next one, unless this net was looked at before. */
        boolean begins(Net now) {
            if (known && net.sameArcs(now) && net.sameMarking(now)) {
                return false;
            }
            net.copy(now);
            known = true;
            many = 0;
            tooMany = false;
            possible = 0;
            System.arraycopy(now.tokens, 0, next, 0, SIZE);
            return true;
        }

        /** Whether the move can be made at a marking; then the one behind it is the next one. */
        boolean leads(int from, int move, int mostHeld) {
            if (!net.allows(rows, from * SIZE, move, mostHeld)) {
                return false;
            }
            possible |= 1 << move;
            net.step(rows, from * SIZE, move, next);
            return true;
        }

        /** Takes the next one in; false if it is one too many. */
        boolean takeIn() {
            if (many >= MOST_MARKINGS) {
                tooMany = true;
                return false;
            }
            System.arraycopy(next, 0, rows, many * SIZE, SIZE);
            many++;
            return true;
        }

        boolean isNext(int marking) {
            return isLike(marking, next, 0);
        }

        boolean areSame(int marking, int other) {
            return isLike(marking, rows, other * SIZE);
        }

        private boolean isLike(int marking, int[] others, int from) {
            for (int p = 0; p < SIZE; p++) {
                if (rows[marking * SIZE + p] != others[from + p]) {
                    return false;
                }
            }
            return true;
        }
    }

    /** The markings that can be reached, those with fewer moves first. */
    private static final class Reach {
        private static final int TABLE = 1024;

        final Marks marks = new Marks();
        private final int[] moves = new int[MOST_MARKINGS];
        // Where a marking is, by its hash: its number and 1, or 0 for a free place.
        private final int[] table = new int[TABLE];
        int dead;

        void find(Net net) {
            if (!marks.begins(net)) {
                return;
            }
            dead = 0;
            Arrays.fill(table, 0);
            meet(0);
            for (int i = 0; i < MOST_MARKINGS && i < marks.many && !marks.tooMany; i++) {
                follow(i);
            }
        }

        private void follow(int from) {
            boolean stuck = true;
            for (int m = 0; m < marks.net.moves; m++) {
                if (marks.leads(from, m, MOST_HELD)) {
                    stuck = false;
                    meet(moves[from] + 1);
                }
            }
            if (stuck) {
                dead++;
            }
        }

        /** Takes the next marking in, if it is a new one. */
        private void meet(int movesTo) {
            int at = hash(marks.next);
            for (int i = 0; i < TABLE && table[at] != 0; i++) {
                if (marks.isNext(table[at] - 1)) {
                    return;
                }
                at = at + 1 & TABLE - 1;
            }
            if (marks.takeIn()) {
                moves[marks.many - 1] = movesTo;
                table[at] = marks.many;
            }
        }

        private static int hash(int[] tokens) {
            int mixed = 0;
            for (int p = 0; p < SIZE; p++) {
                mixed = mixed * 31 + tokens[p];
            }
            // Spread by the golden ratio: the upper bits depend on all of them.
            return mixed * -1640531527 >>> 22 & TABLE - 1;
        }

        int fewestMoves(int place, int tokens) {
            for (int i = 0; i < marks.many; i++) {
                if (marks.rows[i * SIZE + place] >= tokens) {
                    return moves[i];
                }
            }
            return NONE;
        }
    }

    /** The growth tree; a node comes after the one above it. */
    private static final class Tree {
        final Marks marks = new Marks();
        private final int[] above = new int[MOST_MARKINGS];
        private final int[] depths = new int[MOST_MARKINGS];
        // The nodes from the top down to the one that is followed.
        private final int[] path = new int[MOST_MARKINGS];
        int deepest;

        void find(Net net) {
            if (!marks.begins(net)) {
                return;
            }
            deepest = 0;
            add(0, 0);
            for (int i = 0; i < MOST_MARKINGS && i < marks.many && !marks.tooMany; i++) {
                follow(i);
            }
        }

        private void add(int parent, int depth) {
            if (marks.takeIn()) {
                above[marks.many - 1] = parent;
                depths[marks.many - 1] = depth;
                deepest = Math.max(deepest, depth);
            }
        }

        private void follow(int node) {
            int depth = depths[node];
            int at = node;
            for (int d = depth; d >= 0; d--) {
                path[d] = at;
                at = above[at];
            }
            for (int d = 0; d < depth; d++) {
                if (marks.areSame(path[d], node)) {
                    return;
                }
            }
            for (int m = 0; m < marks.net.moves && !marks.tooMany; m++) {
                if (marks.leads(node, m, NO_BOUND)) {
                    for (int d = 0; d <= depth; d++) {
                        outgrow(path[d], marks.next);
                    }
                    add(node, depth + 1);
                }
            }
        }

        /** Makes the child endless where it has more than a node that has nowhere more than it. */
        private void outgrow(int node, int[] child) {
            for (int p = 0; p < SIZE; p++) {
                if (marks.rows[node * SIZE + p] > child[p]) {
                    return;
                }
            }
            for (int p = 0; p < SIZE; p++) {
                if (marks.rows[node * SIZE + p] < child[p]) {
                    child[p] = ENDLESS;
                }
            }
        }

        int mostTokens(int place) {
            int most = 0;
            for (int i = 0; i < marks.many; i++) {
                most = Math.max(most, marks.rows[i * SIZE + place]);
            }
            return most;
        }

        int endlessPlaces() {
            int set = 0;
            for (int p = 0; p < SIZE; p++) {
                if (mostTokens(p) == ENDLESS) {
                    set |= 1 << p;
                }
            }
            return set;
        }
    }

    /** The text of orders that is written bit by bit. */
    private static final class Pad {
        static final int ROOM = 80;

        // What may come next: states of reading from left to right.
        private static final int FAULT = -1;
        private static final int ORDER = 0;
        private static final int NUMBER = 1;
        private static final int ONE_DIGIT = 2;
        private static final int TWO_DIGITS = 3;
        private static final int ORDER_END = 4;
        private static final int MOVE = 5;
        private static final int TAKEN = 6;
        private static final int TAKEN_NAMED = 7;
        private static final int TAKEN_TIMES = 8;
        private static final int TAKEN_END = 9;
        private static final int GIVEN = 10;
        private static final int GIVEN_NAMED = 11;
        private static final int GIVEN_TIMES = 12;
        private static final int GIVEN_END = 13;
        private static final int MADE = 14;
        private static final int SET = 15;
        private static final int SET_NAMED = 16;

        private final char[] signs = new char[ROOM];
        int length;

        int append(long characters) {
            long rest = characters;
            int more = 0;
            for (; more < 8 && rest != 0; more++) {
                long code = rest & 255;
                if (code < 33 || code > 126) {
                    return BAD_VALUE;
                }
                rest = rest >>> 8;
            }
            if (more == 0) {
                return BAD_VALUE;
            }
            if (length + more > ROOM) {
                return TOO_MANY;
            }
            for (int i = 0; i < more; i++) {
                signs[length + i] = (char) (characters >>> 8 * (more - 1 - i) & 255);
            }
            length += more;
            return length;
        }

        /** The character there, or 0 if there is none. */
        char sign(int at) {
            return at >= 0 && at < length && at < ROOM ? signs[at] : 0;
        }

        private boolean isDigit(int at) {
            return sign(at) >= '0' && sign(at) <= '9';
        }

        int digit(int at) {
            return isDigit(at) ? sign(at) - '0' : 0;
        }

        int number(int at) {
            int value = 0;
            for (int i = at; i < at + 3 && isDigit(i); i++) {
                value = 10 * value + digit(i);
            }
            return value;
        }

        int orderEnd(int at) {
            for (int i = at; i < length; i++) {
                if (sign(i) == ';') {
                    return i;
                }
            }
            return length;
        }

        /** Whether a place of a move stands there, and not how many tokens. */
        boolean namesPlace(int at) {
            return isDigit(at) && sign(at - 1) != '*';
        }

        int times(int at) {
            return sign(at + 1) == '*' ? digit(at + 2) : 1;
        }

        int firstFault() {
            int state = ORDER;
            for (int i = 0; i < length; i++) {
                state = after(state, sign(i), isDigit(i));
                if (state == FAULT) {
                    return i;
                }
            }
            return mayEnd(state) ? NONE : length;
        }

        private static boolean mayEnd(int state) {
            switch (state) {
                case ONE_DIGIT:
                case TWO_DIGITS:
                case ORDER_END:
                case MOVE:
                case TAKEN_NAMED:
                case TAKEN_END:
                case GIVEN_NAMED:
                case GIVEN_END: return true;
                default: return false;
            }
        }

        private static int after(int state, char sign, boolean digit) {
            if (sign == ';') {
                return mayEnd(state) ? ORDER : FAULT;
            }
            switch (state) {
                case ORDER: return afterStart(sign);
                case NUMBER: return sign == '0' ? ORDER_END : digit ? ONE_DIGIT : FAULT;
                case ONE_DIGIT: return digit ? TWO_DIGITS : FAULT;
                case TWO_DIGITS: return digit ? ORDER_END : FAULT;
                case MOVE: return sign == '<' ? TAKEN : sign == '>' ? GIVEN : FAULT;
                case TAKEN: return digit ? TAKEN_NAMED : FAULT;
                case TAKEN_NAMED: return sign == '*' ? TAKEN_TIMES : afterTaken(sign);
                case TAKEN_TIMES: return digit ? TAKEN_END : FAULT;
                case TAKEN_END: return afterTaken(sign);
                case GIVEN: return digit ? GIVEN_NAMED : FAULT;
                case GIVEN_NAMED: return sign == '*' ? GIVEN_TIMES : afterGiven(sign);
                case GIVEN_TIMES: return digit ? GIVEN_END : FAULT;
                case GIVEN_END: return afterGiven(sign);
                case MADE: return digit ? ORDER_END : FAULT;
                case SET: return digit ? SET_NAMED : FAULT;
                case SET_NAMED: return sign == ':' ? NUMBER : FAULT;
                default: return FAULT;
            }
        }

        private static int afterStart(char sign) {
            switch (sign) {
                case 'p': return NUMBER;
                case 'm': return MOVE;
                case '!': return MADE;
                case '=': return SET;
                default: return FAULT;
            }
        }

        private static int afterTaken(char sign) {
            return sign == ',' ? TAKEN : sign == '>' ? GIVEN : FAULT;
        }

        private static int afterGiven(char sign) {
            return sign == ',' ? GIVEN : FAULT;
        }
    }
}
