import java.util.ArrayDeque;
import java.util.ArrayList;
import java.util.Arrays;
import java.util.HashSet;
import java.util.LinkedHashMap;
import java.util.List;
import java.util.Map;
import java.util.Set;
import java.util.TreeSet;
import java.util.regex.Matcher;
import java.util.regex.Pattern;

/**
 * The document once more, written as near to its words as can be and without regard to cost,
 * so that TokenNets can be compared with it. It shares no code with TokenNets.
 */
final class PlainNets {
    static final int NO_SUCH = -1, BAD_VALUE = -2, BAD_TEXT = -3, TOO_MANY = -4, NOT_POSSIBLE = -5, NONE = -6;
    private static final long ENDLESS = Long.MAX_VALUE;

    private static final class State {
        List<Integer> tokens = new ArrayList<>();
        List<Integer> most = new ArrayList<>();
        List<Integer> made = new ArrayList<>();
        Map<List<Integer>, Integer> takes = new LinkedHashMap<>();
        Map<List<Integer>, Integer> gives = new LinkedHashMap<>();

        State copy() {
            State s = new State();
            s.tokens.addAll(tokens);
            s.most.addAll(most);
            s.made.addAll(made);
            s.takes.putAll(takes);
            s.gives.putAll(gives);
            return s;
        }

        int takes(int m, int p) {
            return takes.getOrDefault(List.of(m, p), 0);
        }

        int gives(int m, int p) {
            return gives.getOrDefault(List.of(m, p), 0);
        }
    }

    private State now = new State();
    private final ArrayDeque<State> history = new ArrayDeque<>();
    private final State[] slots = new State[2];
    private String pad = "";
    private String sumsKey = "";
    private List<List<Integer>> sums = new ArrayList<>();

    private boolean noPlace(int place) {
        return place < 0 || place >= now.tokens.size();
    }

    private boolean noMove(int move) {
        return move < 0 || move >= now.made.size();
    }

    private void record(State before) {
        history.addLast(before);
        if (history.size() > 6) {
            history.removeFirst();
        }
    }

    private int change(java.util.function.IntSupplier what) {
        State before = now.copy();
        int answer = what.getAsInt();
        if (answer >= 0) {
            record(before);
        } else {
            now = before;
        }
        return answer;
    }

    int place(int tokens) {
        return change(() -> doPlace(tokens));
    }

    private int doPlace(int tokens) {
        if (tokens < 0 || tokens > 999) return BAD_VALUE;
        if (now.tokens.size() == 8) return TOO_MANY;
        now.tokens.add(tokens);
        now.most.add(tokens);
        return now.tokens.size() - 1;
    }

    int move() {
        return change(this::doMove);
    }

    private int doMove() {
        if (now.made.size() == 8) return TOO_MANY;
        now.made.add(0);
        return now.made.size() - 1;
    }

    int arc(int move, int place, int takes, int gives) {
        return change(() -> {
            if (noMove(move) || noPlace(place)) return NO_SUCH;
            if (takes < 0 || takes > 9 || gives < 0 || gives > 9) return BAD_VALUE;
            int old = 10 * now.takes(move, place) + now.gives(move, place);
            now.takes.put(List.of(move, place), takes);
            now.gives.put(List.of(move, place), gives);
            return old;
        });
    }

    int tokens(int place, int tokens) {
        return change(() -> doTokens(place, tokens));
    }

    private int doTokens(int place, int tokens) {
        if (noPlace(place)) return NO_SUCH;
        if (tokens < 0 || tokens > 999) return BAD_VALUE;
        now.most.set(place, tokens);
        return now.tokens.set(place, tokens);
    }

    private List<Integer> behind(List<Integer> marking, int move) {
        List<Integer> after = new ArrayList<>();
        for (int p = 0; p < marking.size(); p++) {
            if (marking.get(p) < now.takes(move, p)) return null;
            int t = marking.get(p) - now.takes(move, p) + now.gives(move, p);
            if (t > 99999) return null;
            after.add(t);
        }
        return after;
    }

    private List<Integer> possible(List<Integer> marking) {
        List<Integer> moves = new ArrayList<>();
        for (int m = 0; m < now.made.size(); m++) {
            if (behind(marking, m) != null) moves.add(m);
        }
        return moves;
    }

    private static int mask(Iterable<Integer> members) {
        int set = 0;
        for (int m : members) set |= 1 << m;
        return set;
    }

    int make(int move) {
        return change(() -> doMake(move));
    }

    private int doMake(int move) {
        if (noMove(move)) return NO_SUCH;
        List<Integer> after = behind(now.tokens, move);
        if (after == null) return NOT_POSSIBLE;
        now.tokens = after;
        for (int p = 0; p < after.size(); p++) {
            if (after.get(p) > now.most.get(p)) now.most.set(p, after.get(p));
        }
        now.made.set(move, now.made.get(move) + 1);
        return possible(after).size();
    }

    int run(int seed, int many) {
        return change(() -> {
            if (seed < 0) return BAD_VALUE;
            if (many < 1 || many > 99) return BAD_VALUE;
            java.math.BigInteger x = java.math.BigInteger.valueOf(seed);
            int done = 0;
            while (done < many && !possible(now.tokens).isEmpty()) {
                x = x.multiply(java.math.BigInteger.valueOf(1103515245)).add(java.math.BigInteger.valueOf(12345))
                        .mod(java.math.BigInteger.valueOf(2147483648L));
                List<Integer> moves = possible(now.tokens);
                doMake(moves.get((int) (x.longValue() / 65536 % moves.size())));
                done++;
            }
            return done;
        });
    }

    int ofPlace(int place, int what) {
        if (noPlace(place)) return NO_SUCH;
        if (what < 0 || what > 3) return BAD_VALUE;
        if (what == 0) return now.tokens.get(place);
        if (what == 3) return now.most.get(place);
        List<Integer> moves = new ArrayList<>();
        for (int m = 0; m < now.made.size(); m++) {
            if ((what == 1 ? now.takes(m, place) : now.gives(m, place)) != 0) moves.add(m);
        }
        return mask(moves);
    }

    int ofMove(int move, int what) {
        if (noMove(move)) return NO_SUCH;
        if (what < 0 || what > 4) return BAD_VALUE;
        if (what == 0) return behind(now.tokens, move) == null ? 0 : 1;
        if (what == 1) return now.made.get(move);
        List<Integer> takes = new ArrayList<>();
        List<Integer> gives = new ArrayList<>();
        int more = 100;
        for (int p = 0; p < now.tokens.size(); p++) {
            if (now.takes(move, p) > 0) takes.add(p);
            if (now.gives(move, p) > 0) gives.add(p);
            more += now.gives(move, p) - now.takes(move, p);
        }
        return what == 2 ? mask(takes) : what == 3 ? mask(gives) : more;
    }

    int ofArc(int move, int place, int what) {
        if (noMove(move) || noPlace(place)) return NO_SUCH;
        if (what != 0 && what != 1) return BAD_VALUE;
        return what == 0 ? now.takes(move, place) : now.gives(move, place);
    }

    private static int sum(List<Integer> numbers) {
        return numbers.stream().mapToInt(i -> i).sum();
    }

    int count(int what) {
        switch (what) {
            case 0: return now.tokens.size();
            case 1: return now.made.size();
            case 2: return sum(now.tokens);
            case 3: return mask(possible(now.tokens));
            case 4: return sum(now.made);
            case 5: return pad.length();
            case 6: return history.size();
            default: return BAD_VALUE;
        }
    }

    int share(int move) {
        if (noMove(move)) return NO_SUCH;
        if (sum(now.made) == 0) return NONE;
        double d = now.made.get(move);
        return Float.floatToIntBits((float) (d / sum(now.made)));
    }

    long mean(int what) {
        if (what != 0 && what != 1) return -2;
        if (now.tokens.isEmpty()) return 0;
        double d = sum(now.tokens);
        d = d / now.tokens.size();
        return Double.doubleToLongBits(what == 0 ? d : d % 1.0);
    }

    // All weights are tried, and the definition is read word for word.
    private List<List<Integer>> smallest() {
        String key = now.tokens.size() + " " + now.made.size() + " " + now.takes + now.gives;
        if (key.equals(sumsKey)) return sums;
        int n = now.tokens.size();
        List<List<Integer>> all = new ArrayList<>();
        Set<Integer> supports = new TreeSet<>();
        for (int code = 1; code < 1 << 2 * n; code++) {
            List<Integer> weights = new ArrayList<>();
            for (int p = 0; p < n; p++) weights.add(code >> 2 * (n - 1 - p) & 3);
            boolean keeps = true;
            for (int m = 0; m < now.made.size() && keeps; m++) {
                int given = 0;
                int taken = 0;
                for (int p = 0; p < n; p++) {
                    given += weights.get(p) * now.gives(m, p);
                    taken += weights.get(p) * now.takes(m, p);
                }
                keeps = given == taken;
            }
            if (keeps) {
                all.add(weights);
                supports.add(support(weights));
            }
        }
        List<List<Integer>> out = new ArrayList<>();
        for (List<Integer> weights : all) {
            int own = support(weights);
            boolean smaller = false;
            for (int s : supports) {
                if (s != own && (s & own) == s) smaller = true;
            }
            int divisor = 0;
            for (int w : weights) divisor = java.math.BigInteger.valueOf(divisor).gcd(java.math.BigInteger.valueOf(w)).intValue();
            if (!smaller && divisor == 1) out.add(weights);
        }
        sumsKey = key;
        sums = out;
        return out;
    }

    private static int support(List<Integer> weights) {
        int set = 0;
        for (int p = 0; p < weights.size(); p++) if (weights.get(p) > 0) set |= 1 << p;
        return set;
    }

    int kept(int sum, int what) {
        List<List<Integer>> all = smallest();
        if (sum < 0 || sum >= all.size()) return NO_SUCH;
        if (what != 8 && noPlace(what)) return BAD_VALUE;
        if (what < 8) return all.get(sum).get(what);
        int worth = 0;
        for (int p = 0; p < now.tokens.size(); p++) worth += all.get(sum).get(p) * now.tokens.get(p);
        return worth;
    }

    int keptMany() {
        return smallest().size();
    }

    private boolean closed(int set, boolean isTrap) {
        for (int m = 0; m < now.made.size(); m++) {
            boolean takes = false;
            boolean gives = false;
            for (int p = 0; p < now.tokens.size(); p++) {
                if ((set >> p & 1) == 1) {
                    takes |= now.takes(m, p) > 0;
                    gives |= now.gives(m, p) > 0;
                }
            }
            if (isTrap ? takes && !gives : gives && !takes) return false;
        }
        return true;
    }

    int trap(int places, int what) {
        if (places < 0) return NO_SUCH;
        for (int p = 0; p < 31; p++) {
            if ((places >> p & 1) == 1 && noPlace(p)) return NO_SUCH;
        }
        if (what < 0 || what > 3) return BAD_VALUE;
        int greatest = 0;
        for (int set = 0; set <= places; set++) {
            if ((set & places) == set && closed(set, what % 2 == 0) && Integer.bitCount(set) > Integer.bitCount(greatest)) {
                greatest = set;
            }
        }
        if (what < 2) return greatest;
        int sum = 0;
        for (int p = 0; p < now.tokens.size(); p++) if ((greatest >> p & 1) == 1) sum += now.tokens.get(p);
        return sum;
    }

    /** Each marking with its fewest moves, layer by layer; null if there are too many. */
    private Map<List<Integer>, Integer> markings() {
        Map<List<Integer>, Integer> found = new LinkedHashMap<>();
        Set<List<Integer>> layer = new HashSet<>();
        layer.add(now.tokens);
        for (int moves = 0; !layer.isEmpty(); moves++) {
            for (List<Integer> marking : layer) found.put(marking, moves);
            if (found.size() > 300) return null;
            Set<List<Integer>> next = new HashSet<>();
            for (List<Integer> marking : layer) {
                for (int m : possible(marking)) {
                    if (!found.containsKey(behind(marking, m))) next.add(behind(marking, m));
                }
            }
            layer = next;
        }
        return found;
    }

    int reached(int what) {
        if (what < 0 || what > 2) return BAD_VALUE;
        Map<List<Integer>, Integer> found = markings();
        if (found == null) return TOO_MANY;
        if (what == 0) return found.size();
        int dead = 0;
        int moves = 0;
        for (List<Integer> marking : found.keySet()) {
            if (possible(marking).isEmpty()) dead++;
            moves |= mask(possible(marking));
        }
        return what == 1 ? dead : moves;
    }

    int fewest(int place, int tokens) {
        if (noPlace(place)) return NO_SUCH;
        if (tokens < 0 || tokens > 9999) return BAD_VALUE;
        Map<List<Integer>, Integer> found = markings();
        if (found == null) return TOO_MANY;
        int best = NONE;
        for (Map.Entry<List<Integer>, Integer> e : found.entrySet()) {
            if (e.getKey().get(place) >= tokens && (best == NONE || e.getValue() < best)) best = e.getValue();
        }
        return best;
    }

    /** The nodes as the ways down to them; null if there are too many. */
    private List<List<long[]>> nodes() {
        long[] top = new long[now.tokens.size()];
        for (int p = 0; p < top.length; p++) top[p] = now.tokens.get(p);
        List<List<long[]>> all = new ArrayList<>();
        return grow(List.of(top), all) ? all : null;
    }

    private boolean grow(List<long[]> way, List<List<long[]>> all) {
        all.add(way);
        if (all.size() > 300) return false;
        long[] node = way.get(way.size() - 1);
        for (long[] higher : way.subList(0, way.size() - 1)) {
            if (Arrays.equals(higher, node)) return true;
        }
        for (int m = 0; m < now.made.size(); m++) {
            if (!growsBy(node, m)) continue;
            long[] child = node.clone();
            for (int p = 0; p < child.length; p++) {
                if (child[p] != ENDLESS) child[p] += now.gives(m, p) - now.takes(m, p);
            }
            for (long[] higher : way) {
                boolean atMost = true;
                boolean fewer = false;
                for (int p = 0; p < child.length; p++) {
                    atMost &= higher[p] <= child[p];
                    fewer |= higher[p] < child[p];
                }
                if (atMost && fewer) {
                    for (int p = 0; p < child.length; p++) if (higher[p] < child[p]) child[p] = ENDLESS;
                }
            }
            List<long[]> longer = new ArrayList<>(way);
            longer.add(child);
            if (!grow(longer, all)) return false;
        }
        return true;
    }

    private boolean growsBy(long[] node, int move) {
        for (int p = 0; p < node.length; p++) if (node[p] < now.takes(move, p)) return false;
        return true;
    }

    int growth(int what) {
        if (what < 0 || what > 3) return BAD_VALUE;
        List<List<long[]>> all = nodes();
        if (all == null) return TOO_MANY;
        int endless = 0;
        int moves = 0;
        int deepest = 0;
        for (List<long[]> way : all) {
            long[] node = way.get(way.size() - 1);
            deepest = Math.max(deepest, way.size() - 1);
            for (int p = 0; p < node.length; p++) if (node[p] == ENDLESS) endless |= 1 << p;
            for (int m = 0; m < now.made.size(); m++) if (growsBy(node, m)) moves |= 1 << m;
        }
        return new int[] {all.size(), endless, moves, deepest}[what];
    }

    int bound(int place) {
        if (noPlace(place)) return NO_SUCH;
        List<List<long[]>> all = nodes();
        if (all == null) return TOO_MANY;
        long most = 0;
        for (List<long[]> way : all) most = Math.max(most, way.get(way.size() - 1)[place]);
        return most == ENDLESS ? NONE : (int) most;
    }

    int put(long characters) {
        String more = "";
        for (int i = 0; i < 8; i++) {
            int code = (int) (characters >>> 8 * i) & 255;
            if (code == 0 && (characters >>> 8 * i) == 0) break;
            if (code < 33 || code > 126) return BAD_VALUE;
            more = (char) code + more;
        }
        if (more.isEmpty()) return BAD_VALUE;
        if (pad.length() + more.length() > 80) return TOO_MANY;
        pad += more;
        return pad.length();
    }

    int wipe() {
        int length = pad.length();
        pad = "";
        return length;
    }

    private static final String NUMBER = "(?:0|[1-9][0-9]{0,2})";
    private static final String PLACES = "[0-9](?:\\*[0-9])?(?:,[0-9](?:\\*[0-9])?)*";
    private static final String ORDER = "(?:p" + NUMBER + "|m(?:<" + PLACES + ")?(?:>" + PLACES + ")?|![0-9]|=[0-9]:" + NUMBER + ")";
    private static final Pattern TEXT = Pattern.compile(ORDER + "(?:;" + ORDER + ")*");

    int fault() {
        for (int i = 1; i <= pad.length(); i++) {
            Matcher m = TEXT.matcher(pad.substring(0, i));
            if (!m.matches() && !m.hitEnd()) return i - 1;
        }
        return TEXT.matcher(pad).matches() ? NONE : pad.length();
    }

    int carryOut() {
        if (!TEXT.matcher(pad).matches()) return BAD_TEXT;
        State before = now.copy();
        int done = 0;
        for (String order : pad.split(";")) {
            State soFar = now.copy();
            if (doOrder(order) < 0) {
                now = soFar;
                break;
            }
            done++;
        }
        pad = "";
        record(before);
        return done;
    }

    private int doOrder(String order) {
        String rest = order.substring(1);
        switch (order.charAt(0)) {
            case 'p': return doPlace(Integer.parseInt(rest));
            case '!': return doMake(Integer.parseInt(rest));
            case '=': return doTokens(Integer.parseInt(rest.split(":")[0]), Integer.parseInt(rest.split(":")[1]));
            default: break;
        }
        int move = doMove();
        if (move < 0) return move;
        Matcher lists = Pattern.compile("([<>])([0-9*,]+)").matcher(rest);
        while (lists.find()) {
            for (String place : lists.group(2).split(",")) {
                String[] parts = place.split("\\*");
                if (noPlace(Integer.parseInt(parts[0]))) return NO_SUCH;
                (lists.group(1).equals("<") ? now.takes : now.gives).put(List.of(move, Integer.parseInt(parts[0])),
                        parts.length > 1 ? Integer.parseInt(parts[1]) : 1);
            }
        }
        return move;
    }

    int undo() {
        if (history.isEmpty()) return NOT_POSSIBLE;
        now = history.removeLast();
        return history.size();
    }

    int save(int slot) {
        if (slot < 0 || slot > 1) return BAD_VALUE;
        slots[slot] = now.copy();
        return sum(now.tokens);
    }

    int restore(int slot) {
        if (slot < 0 || slot > 1) return BAD_VALUE;
        if (slots[slot] == null) return NOT_POSSIBLE;
        return change(() -> {
            now = slots[slot].copy();
            return sum(now.tokens);
        });
    }
}
