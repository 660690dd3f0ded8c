import java.lang.reflect.Array;
import java.math.BigInteger;
import java.util.ArrayDeque;
import java.util.ArrayList;
import java.util.Arrays;
import java.util.Deque;
import java.util.List;
import java.util.function.IntPredicate;
import java.util.function.ToIntFunction;

/** The document once more, from its first line, in the plainest way: slow, and with all that Java has. */
public final class Told {
    private static final int BAD = -1, NOT = -2, FULL = -3, STATE = -5;
    private static final int NOTHING = -11, KIND = -12, PLACE = -13, SIZE = -14;
    private static final int FAR = 1 << 28;

    private record State(int fold, int cloth, int notch, int side) {
        static State of(int s) {
            return new State(s / 18, s % 18 / 6, s % 6 / 2, s % 2);
        }

        int number() {
            return fold * 18 + cloth * 6 + notch * 2 + side;
        }

        State on(int what, int by) {
            return switch (what) {
                case 0 -> new State((fold + by) % 3, cloth, notch, side);
                case 1 -> new State(fold, (cloth + by) % 3, notch, side);
                case 2 -> new State(fold, cloth, (notch + by) % 3, side);
                default -> new State(fold, cloth, notch, (side + by) % 2);
            };
        }

        int part(int what) {
            return new int[] {fold, cloth, notch, side}[what];
        }
    }

    private static final class Move {
        final int[] numbers = {3, 3, 1};
        final int what;
        final int by;

        Move(int what, int by, int from) {
            this.what = what;
            this.by = by;
            numbers[0] = from;
        }

        int leads(int s) {
            State state = State.of(s);
            boolean may = (numbers[0] == 3 || numbers[0] == state.part(what)) && (numbers[1] == 3 || numbers[1] == state.fold);
            return may ? state.on(what, by).number() : NOT;
        }
    }

    private static final class Person {
        int deft;
        int knows = 0;
        int learns;
        int[] done = new int[12];

        Person(int deft, int learns) {
            this.deft = deft;
            this.learns = learns;
        }
    }

    private record Line(ToIntFunction<int[]> first, ToIntFunction<int[]> second) { }

    private record Change(int number, int what, int was, int v) { }

    private record Image(int state, int[] led, List<Person> people) { }

    private final List<Move> kit = new ArrayList<>();
    private final List<Person> people = new ArrayList<>();
    private final StringBuilder tape = new StringBuilder();
    private List<Line> text = null;
    private int deed = 0;
    private int[] ledBy = new int[4];
    private Image image = null;
    private final Deque<Change> changes = new ArrayDeque<>();
    private final Deque<Change> undone = new ArrayDeque<>();
    private final List<Frame> frames = new ArrayList<>();
    private final List<Integer> ran = new ArrayList<>();
    private final Object[] shelves = new Object[6];

    // ---- moves, people

    private static boolean within(int v, int low, int high) {
        return v >= low && v <= high;
    }

    private static boolean isFrom(int what, int from) {
        return from == 3 || within(from, 0, what == 3 ? 1 : 2);
    }

    public int move(int wb, int from) {
        if (!within(wb, 0, 39) || !within(wb % 10, 1, 2) || !isFrom(wb / 10, from)) {
            return BAD;
        }
        if (kit.size() == 12) {
            return FULL;
        }
        kit.add(new Move(wb / 10, wb % 10, from));
        return kit.size() - 1;
    }

    public int moves(int shelf, int i, int n) {
        if (!within(shelf, 0, 5) || !within(n, 1, 12)) {
            return BAD;
        }
        if (shelves[shelf] != null && !(shelves[shelf] instanceof byte[])) {
            return KIND;
        }
        int came = 0;
        try {
            for (int at = i; came < n; at += 5, came++) {
                byte[] b = Arrays.copyOfRange((byte[]) shelves[shelf], at, at + 5);
                if (at + 5 > ((byte[]) shelves[shelf]).length || !within(b[3], 0, 3) || !within(b[4], 0, 9)
                    || !within(b[0], 0, 3) || !within(b[1], 1, 2) || move(10 * b[0] + b[1], b[2]) < 0) {
                    return came;
                }
                kit.get(kit.size() - 1).numbers[1] = b[3];
                kit.get(kit.size() - 1).numbers[2] = b[4];
            }
        } catch (NullPointerException | IndexOutOfBoundsException | IllegalArgumentException e) {
            return came;
        }
        return came;
    }

    public int person(int deft, int learns) {
        if (!within(deft, 0, 9) || !within(learns, 1, 9)) {
            return BAD;
        }
        if (people.size() == 6) {
            return FULL;
        }
        people.add(new Person(deft, learns));
        return people.size() - 1;
    }

    public int mend(int number, int what, int v) {
        int was = of(number, what);
        boolean fits = switch (what) {
            case 0 -> was >= 0 && isFrom(kit.get(number).what, v);
            case 1 -> within(v, 0, 3);
            case 2, 3 -> within(v, 0, 9);
            case 4 -> within(v, 0, 4095);
            case 5 -> within(v, 1, 9);
            default -> false;
        };
        if (was < 0 || !fits) {
            return BAD;
        }
        if (v != was) {
            set(number, what, v);
            changes.push(new Change(number, what, was, v));
            undone.clear();
            if (changes.size() > 40) {
                changes.removeLast();
            }
        }
        return was;
    }

    private void set(int number, int what, int v) {
        switch (what) {
            case 3: people.get(number).deft = v; break;
            case 4: people.get(number).knows = v; break;
            case 5: people.get(number).learns = v; break;
            default: kit.get(number).numbers[what] = v; break;
        }
    }

    public int of(int number, int what) {
        if (what == 8) {
            return number == 0 ? deed : BAD;
        }
        boolean ofMove = within(what, 0, 2) || within(what, 6, 7);
        if (!within(what, 0, 7) || !within(number, 0, (ofMove ? kit.size() : people.size()) - 1)) {
            return BAD;
        }
        return switch (what) {
            case 3 -> people.get(number).deft;
            case 4 -> people.get(number).knows;
            case 5 -> people.get(number).learns;
            case 6 -> kit.get(number).what;
            case 7 -> kit.get(number).by;
            default -> kit.get(number).numbers[what];
        };
    }

    public int feed(int letter) {
        if (!within(letter, 0, 255)) {
            return BAD;
        }
        return tape.length() == 120 ? FULL : tape.append((char) letter).length();
    }

    public int law() {
        String t = tape.toString();
        tape.setLength(0);
        List<Line> lines = textOf(t);
        if (lines != null) {
            text = lines;
            return 1;
        }
        int fault = 0;
        while (fault < t.length() && goesOn(t.substring(0, fault + 1))) {
            fault++;
        }
        return -100 - fault;
    }

    /** What is open can be shut at once, or behind one more O. */
    private static boolean goesOn(String begun) {
        for (int k = 0; k <= 6; k++) {
            if (textOf(begun + ")".repeat(k)) != null || textOf(begun + "0" + ")".repeat(k)) != null) {
                return true;
            }
        }
        return false;
    }

    private static List<Line> textOf(String t) {
        List<Line> lines = new ArrayList<>();
        for (String line : t.split(";", -1)) {
            String[] es = line.split("\\?", -1);
            ToIntFunction<int[]> first = level(es[0], 0, 0);
            ToIntFunction<int[]> last = level(es[es.length - 1], 0, 0);
            if (es.length > 2 || first == null || last == null) {
                return null;
            }
            lines.add(new Line(es.length == 1 ? null : first, last));
        }
        return lines;
    }

    /** E, A, B, S, P by level 0 .. 4, told apart by the signs that stand in no bracket and behind an O. */
    private static ToIntFunction<int[]> level(String t, int level, int open) {
        if (level == 5) {
            return operand(t, open);
        }
        String signs = new String[] {"|", "&", "<=>", "+-", "*/%"}[level];
        ToIntFunction<int[]> sofar = null;
        char sign = 0;
        int depth = 0;
        int begin = 0;
        int parts = 0;
        for (int i = 0; i <= t.length(); i++) {
            char c = i < t.length() ? t.charAt(i) : 0;
            depth += c == '(' ? 1 : c == ')' ? -1 : 0;
            boolean ends = i == t.length() || depth == 0 && i > 0 && signs.indexOf(c) >= 0
                && "dhfnkm0123456789)".indexOf(t.charAt(i - 1)) >= 0;
            if (ends) {
                ToIntFunction<int[]> part = level(t.substring(begin, i), level + 1, open);
                parts++;
                if (part == null || level == 2 && parts > 2) {
                    return null;
                }
                sofar = parts == 1 ? part : joined(sofar, sign, part);
                sign = c;
                begin = i + 1;
            }
        }
        return sofar;
    }

    private static ToIntFunction<int[]> joined(ToIntFunction<int[]> left, char sign, ToIntFunction<int[]> right) {
        return v -> {
            int a = left.applyAsInt(v);
            int b = right.applyAsInt(v);
            return switch (sign) {
                case '|' -> a != 0 || b != 0 ? 1 : 0;
                case '&' -> a != 0 && b != 0 ? 1 : 0;
                case '<' -> a < b ? 1 : 0;
                case '=' -> a == b ? 1 : 0;
                case '>' -> a > b ? 1 : 0;
                case '+' -> a + b;
                case '-' -> a - b;
                case '*' -> a * b;
                case '/' -> b == 0 ? 0 : a / b;
                default -> b == 0 ? 0 : a % b;
            };
        };
    }

    private static ToIntFunction<int[]> operand(String t, int open) {
        if (t.matches("[0-9]{1,4}")) {
            int number = Integer.parseInt(t);
            return v -> number;
        }
        if (t.matches("[dhfnkm]")) {
            int name = "dhfnkm".indexOf(t);
            return v -> v[name];
        }
        if (open == 6 || t.isEmpty()) {
            return null;
        }
        if (t.charAt(0) == '(' && t.endsWith(")")) {
            return level(t.substring(1, t.length() - 1), 0, open + 1);
        }
        if (t.charAt(0) != '!' && t.charAt(0) != '-') {
            return null;
        }
        ToIntFunction<int[]> o = operand(t.substring(1), open + 1);
        boolean not = t.charAt(0) == '!';
        return o == null ? null : v -> not ? o.applyAsInt(v) == 0 ? 1 : 0 : -o.applyAsInt(v);
    }

    public int leads(int move, int state) {
        return within(move, 0, kit.size() - 1) && within(state, 0, 53) ? kit.get(move).leads(state) : BAD;
    }

    public int takes(int one, int move, int state) {
        boolean said = within(one, -1, people.size() - 1) && within(move, 0, kit.size() - 1) && within(state, 0, 53);
        return said ? seconds(one, one < 0 ? 0 : people.get(one).knows, move, state) : BAD;
    }

    private int seconds(int one, int knows, int move, int s) {
        if (one < 0) {
            return 1;
        }
        int k = knows / (1 << move) % 2;
        int h = kit.get(move).numbers[2];
        int d = people.get(one).deft;
        if (text == null) {
            return Math.max(1, (1 + h) * (2 - k) - d / 3);
        }
        int[] v = {d, h, State.of(s).fold, State.of(s).notch, k, move};
        for (Line line : text) {
            if (line.first == null || line.first.applyAsInt(v) != 0) {
                return Math.max(0, Math.min(99, line.second.applyAsInt(v)));
            }
        }
        return 0;
    }

    // ---- ways

    private boolean isPs(int ps) {
        return ps >= 0 && ps / 100 <= people.size() && ps % 100 < 54;
    }

    private static IntPredicate aim(int to) {
        return s -> {
            State state = State.of(s);
            return switch (to) {
                case 54 -> state.fold == 2 && state.cloth == 0 && state.side == 0;
                case 55 -> state.fold == 0;
                default -> s == to;
            };
        };
    }

    /** What each MOVE takes in each STATE: 0, if one cannot make it there. */
    private int[][] made(int one, int knows) {
        int[][] takes = new int[kit.size()][54];
        for (int m = 0; m < kit.size(); m++) {
            for (int s = 0; s < 54; s++) {
                takes[m][s] = kit.get(m).leads(s) < 0 ? 0 : seconds(one, knows, m, s);
            }
        }
        return takes;
    }

    private int[][] made(int one) {
        return made(one, one < 0 ? 0 : people.get(one).knows);
    }

    /** From a STATE to each, the nearest first. */
    private int[] from(int state, int[][] takes, boolean bySeconds) {
        int[] far = new int[54];
        Arrays.fill(far, FAR);
        far[state] = 0;
        boolean[] passed = new boolean[54];
        for (int round = 0; round < 54; round++) {
            int at = -1;
            for (int s = 0; s < 54; s++) {
                at = !passed[s] && far[s] < FAR && (at < 0 || far[s] < far[at]) ? s : at;
            }
            if (at < 0) {
                return far;
            }
            passed[at] = true;
            for (int m = 0; m < takes.length; m++) {
                if (takes[m][at] > 0) {
                    int to = kit.get(m).leads(at);
                    far[to] = Math.min(far[to], far[at] + (bySeconds ? takes[m][at] : 1));
                }
            }
        }
        return far;
    }

    private static int least(int[] far, IntPredicate aim) {
        int least = FAR;
        for (int s = 0; s < 54; s++) {
            least = aim.test(s) ? Math.min(least, far[s]) : least;
        }
        return least;
    }

    public int way(int ps, int to, int what) {
        if (!isPs(ps) || !within(to, 0, 55) || !within(what, 0, 1)) {
            return BAD;
        }
        int far = least(from(ps % 100, made(ps / 100 - 1), what == 1), aim(to));
        return far == FAR ? NOT : far;
    }

    public int next(int ps, int to) {
        if (!isPs(ps) || !within(to, 0, 55)) {
            return BAD;
        }
        int[][] takes = made(ps / 100 - 1);
        int state = ps % 100;
        int far = least(from(state, takes, true), aim(to));
        if (far == 0 || far == FAR) {
            return NOT;
        }
        int m = 0;
        while (takes[m][state] == 0 || takes[m][state] + least(from(kit.get(m).leads(state), takes, true), aim(to)) != far) {
            m++;
        }
        return m;
    }

    private List<Integer> reached(int state, int[][] takes, IntPredicate barred) {
        List<Integer> reached = new ArrayList<>();
        if (!barred.test(state)) {
            reached.add(state);
        }
        for (int i = 0; i < reached.size(); i++) {
            for (int m = 0; m < takes.length; m++) {
                int to = kit.get(m).leads(reached.get(i));
                if (takes[m][reached.get(i)] > 0 && !barred.test(to) && !reached.contains(to)) {
                    reached.add(to);
                }
            }
        }
        return reached;
    }

    public int reach(int ps, int what) {
        if (!isPs(ps) || !within(what, 0, 2)) {
            return BAD;
        }
        List<Integer> reached = reached(ps % 100, made(ps / 100 - 1), what == 2 ? aim(55) : s -> false);
        return (int) reached.stream().filter(s -> what != 1 || aim(54).test(s)).count();
    }

    public int worst(int one, int what) {
        if (!within(one, -1, people.size() - 1) || !within(what, 0, 2)) {
            return BAD;
        }
        int[] told = {NOT, NOT, 0};
        for (int s = 0; s < 54; s++) {
            int far = least(from(s, made(one), false), aim(54));
            if (far == FAR) {
                told[2]++;
            } else if (far > told[1]) {
                told[0] = s;
                told[1] = far;
            }
        }
        return told[what];
    }

    public int ways(int from, int to) {
        if (!within(from, 0, 53) || !within(to, 0, 53)) {
            return BAD;
        }
        int most = from(from, made(-1), false)[to];
        if (most == FAR) {
            return 0;
        }
        BigInteger[] many = new BigInteger[54];
        Arrays.fill(many, BigInteger.ZERO);
        many[from] = BigInteger.ONE;
        for (int step = 0; step < most; step++) {
            BigInteger[] then = new BigInteger[54];
            Arrays.fill(then, BigInteger.ZERO);
            for (int s = 0; s < 54; s++) {
                for (Move m : kit) {
                    int end = m.leads(s);
                    if (end >= 0) {
                        then[end] = then[end].add(many[s]);
                    }
                }
            }
            many = then;
        }
        return many[to].min(BigInteger.valueOf(9999)).intValue();
    }

    public int backFrom(int ps) {
        if (!isPs(ps)) {
            return BAD;
        }
        int[][] takes = made(ps / 100 - 1);
        for (int s : reached(ps % 100, takes, t -> false)) {
            if (!reached(s, takes, t -> false).contains(ps % 100)) {
                return 0;
            }
        }
        return 1;
    }

    private boolean opensFrom(int state, int[][] takes) {
        return reached(state, takes, s -> false).stream().anyMatch(s -> aim(54).test(s));
    }

    private static int[][] without(int move, int[][] takes) {
        int[][] less = takes.clone();
        less[move] = new int[54];
        return less;
    }

    public int needed(int ps) {
        if (!isPs(ps)) {
            return BAD;
        }
        int[][] takes = made(ps / 100 - 1);
        if (!opensFrom(ps % 100, takes)) {
            return NOT;
        }
        int bits = 0;
        for (int m = 0; m < kit.size(); m++) {
            bits += opensFrom(ps % 100, without(m, takes)) ? 0 : 1 << m;
        }
        return bits;
    }

    public int oneWay(int what) {
        if (!within(what, 0, 1)) {
            return BAD;
        }
        int[] told = {NOT, NOT};
        for (int m = 0; m < kit.size(); m++) {
            int left = 0;
            for (int s = 0; s < 54; s++) {
                left += opensFrom(s, without(m, made(-1))) ? 1 : 0;
            }
            if (told[0] == NOT || left < told[1]) {
                told = new int[] {m, left};
            }
        }
        return told[what];
    }

    // ---- learners, attendants

    private int refusal(int shelf) {
        return shelves[shelf] == null ? NOTHING : shelves[shelf] instanceof byte[] ? 1 : KIND;
    }

    private int refusal(int shelf, int one) {
        return within(shelf, 0, 5) && within(one, 0, people.size() - 1) ? refusal(shelf) : BAD;
    }

    /** The bytes of a ROW below a bound, as far as such there are. */
    private List<Integer> farAs(int shelf, int bound) {
        List<Integer> such = new ArrayList<>();
        for (byte b : (byte[]) shelves[shelf]) {
            if (!within(b, 0, bound - 1)) {
                break;
            }
            such.add((int) b);
        }
        return such;
    }

    public int learn(int shelf, int one) {
        if (refusal(shelf, one) < 0) {
            return refusal(shelf, one);
        }
        int[] seen = new int[12];
        int bits = people.get(one).knows;
        for (int m : farAs(shelf, kit.size())) {
            seen[m]++;
            bits |= seen[m] >= people.get(one).learns ? 1 << m : 0;
        }
        return bits;
    }

    public int show(int ps, int s, int what) {
        if (!isPs(ps) || ps < 100 || !within(s, 0, 999) || !within(what, 0, 1)) {
            return BAD;
        }
        int one = ps / 100 - 1;
        int[][][] takes = {made(one, 0), made(one, 4095)};
        for (int many = 0; many <= 3; many++) {
            for (int bits = 0; bits < 1 << kit.size(); bits++) {
                if (Integer.bitCount(bits) == many) {
                    int[][] then = new int[kit.size()][];
                    for (int m = 0; m < kit.size(); m++) {
                        then[m] = takes[(people.get(one).knows | bits) / (1 << m) % 2][m];
                    }
                    if (least(from(ps % 100, then, true), aim(54)) <= s) {
                        return what == 0 ? many : bits;
                    }
                }
            }
        }
        return NOT;
    }

    /** How many seconds each chair takes of one; -1: it is left. */
    private List<Integer> chairs(int shelf, int one) {
        List<Integer> times = new ArrayList<>();
        for (int state : farAs(shelf, 54)) {
            int far = least(from(state, made(one), true), aim(54));
            times.add(far == FAR ? -1 : far);
        }
        return times;
    }

    public int opens(int shelf, int one, int s) {
        if (!within(s, -2, 9999) || refusal(shelf, one) < 0) {
            return within(s, -2, 9999) ? refusal(shelf, one) : BAD;
        }
        int left = 0;
        int open = 0;
        int clock = 0;
        for (int time : chairs(shelf, one)) {
            if (time < 0) {
                left++;
                continue;
            }
            clock += time;
            open += clock <= s ? 1 : 0;
        }
        return s == -2 ? left : s == -1 ? clock : open;
    }

    public int bestFirst(int shelf, int one, int s) {
        if (!within(s, 0, 9999) || refusal(shelf, one) < 0) {
            return within(s, 0, 9999) ? refusal(shelf, one) : BAD;
        }
        int[] soonest = new int[61];
        Arrays.fill(soonest, FAR);
        soonest[0] = 0;
        for (int time : chairs(shelf, one)) {
            for (int many = 60; many > 0 && time >= 0; many--) {
                soonest[many] = Math.min(soonest[many], soonest[many - 1] + time);
            }
        }
        int many = 60;
        while (soonest[many] > s) {
            many--;
        }
        return many;
    }

    public int tide(int shelf, int one, int t) {
        if (!within(t, 1, 999) || refusal(shelf, one) < 0) {
            return within(t, 1, 999) ? refusal(shelf, one) : BAD;
        }
        List<Integer> times = chairs(shelf, one);
        int clock = 0;
        for (int k = 0; k < times.size(); k++) {
            clock += times.get(k);
            if (times.get(k) < 0 || clock > (k + 1) * t) {
                return k;
            }
        }
        return NOT;
    }

    public int two(int shelf, int ab) {
        boolean said = ab >= 0 && ab / 10 != ab % 10 && ab % 10 < people.size();
        if (!said || refusal(shelf, ab / 10) < 0) {
            return said ? refusal(shelf, ab / 10) : BAD;
        }
        List<List<Integer>> times = List.of(chairs(shelf, ab / 10), chairs(shelf, ab % 10));
        int alone = 0;
        int[] free = {0, 0};
        for (int k = 0; k < times.get(0).size(); k++) {
            alone += Math.max(0, times.get(0).get(k));
            int who = free[1] < free[0] ? 1 : 0;
            free[who] += Math.max(0, times.get(who).get(k));
        }
        return Math.max(0, alone - Math.max(free[0], free[1]));
    }

    // ---- found, drawn

    private int refusalFound(int shelf, int state) {
        return within(shelf, 0, 5) && within(state, 0, 53) ? refusal(shelf) : BAD;
    }

    /** The STATES that one comes to, the first ahead of all MOVES. */
    private List<Integer> passed(int shelf, int state) {
        List<Integer> passed = new ArrayList<>(List.of(state));
        for (int m : farAs(shelf, kit.size())) {
            int to = kit.get(m).leads(passed.get(passed.size() - 1));
            if (to < 0) {
                break;
            }
            passed.add(to);
        }
        return passed;
    }

    public int judge(int shelf, int state) {
        if (refusalFound(shelf, state) < 0) {
            return refusalFound(shelf, state);
        }
        int made = passed(shelf, state).size() - 1;
        return made == ((byte[]) shelves[shelf]).length ? NOT : made;
    }

    public int ends(int shelf, int state) {
        if (refusalFound(shelf, state) < 0) {
            return refusalFound(shelf, state);
        }
        List<Integer> passed = passed(shelf, state);
        return passed.get(passed.size() - 1);
    }

    public int who(int shelf, int state) {
        if (refusalFound(shelf, state) < 0) {
            return refusalFound(shelf, state);
        }
        if (judge(shelf, state) != NOT) {
            return 0;
        }
        int bits = 0;
        List<Integer> passed = passed(shelf, state);
        for (int one = 0; one < people.size(); one++) {
            boolean can = true;
            for (int i = 0; i + 1 < passed.size(); i++) {
                can &= takes(one, ((byte[]) shelves[shelf])[i], passed.get(i)) > 0;
            }
            bits += can ? 1 << one : 0;
        }
        return bits;
    }

    public int begun(int shelf, int end, int what) {
        if (!within(what, 0, 1) || refusalFound(shelf, end) < 0) {
            return within(what, 0, 1) ? refusalFound(shelf, end) : BAD;
        }
        List<Integer> begun = new ArrayList<>();
        for (int s = 0; s < 54; s++) {
            if (judge(shelf, s) == NOT && ends(shelf, s) == end) {
                begun.add(s);
            }
        }
        return what == 0 ? begun.size() : begun.isEmpty() ? NOT : begun.get(0);
    }

    public int drawn(int state, int seed, int nm, int what) {
        if (!within(state, 0, 53) || nm < 0 || !within(nm / 100, 1, 50) || !within(nm % 100, 1, 60) || !within(what, 0, 1)) {
            return BAD;
        }
        int[] told = {0, 0};
        int z = seed;
        for (int chair = 0; chair < nm / 100; chair++) {
            int at = state;
            boolean was = aim(54).test(at);
            for (int i = 0; i < nm % 100; i++) {
                z = z * 1103515245 + 12345;
                List<Move> may = new ArrayList<>(kit);
                int here = at;
                may.removeIf(m -> m.leads(here) < 0);
                at = may.isEmpty() ? at : may.get((z >>> 8) % may.size()).leads(at);
                was |= aim(54).test(at);
            }
            told[0] += aim(54).test(at) ? 1 : 0;
            told[1] += was ? 1 : 0;
        }
        return told[what];
    }

    // ---- in deed

    public int make(int one, int move) {
        if (!within(one, 0, people.size() - 1) || !within(move, 0, kit.size() - 1)) {
            return BAD;
        }
        int to = kit.get(move).leads(deed);
        int seconds = takes(one, move, deed);
        if (to < 0 || seconds == 0) {
            return NOT;
        }
        Person p = people.get(one);
        p.done[move]++;
        p.knows |= p.done[move] >= p.learns ? 1 << move : 0;
        ledBy[0]++;
        ledBy[1] += seconds;
        ledBy[2] += aim(54).test(to) && !aim(54).test(deed) ? 1 : 0;
        deed = to;
        return deed;
    }

    public int lay(int state) {
        if (!within(state, 0, 53)) {
            return BAD;
        }
        int was = deed;
        deed = state;
        ledBy[3]++;
        return was;
    }

    public int led(int what) {
        return within(what, 0, 3) ? ledBy[what] : BAD;
    }

    public int image() {
        List<Person> kept = new ArrayList<>();
        for (Person p : people) {
            Person like = new Person(p.deft, p.learns);
            like.knows = p.knows;
            like.done = p.done.clone();
            kept.add(like);
        }
        image = new Image(deed, ledBy.clone(), kept);
        return ledBy[0];
    }

    public int back() {
        if (image == null) {
            return STATE;
        }
        deed = image.state;
        ledBy = image.led.clone();
        for (int one = 0; one < people.size(); one++) {
            Person like = one < image.people.size() ? image.people.get(one) : new Person(0, 1);
            people.get(one).knows = like.knows;
            people.get(one).done = like.done.clone();
        }
        return ledBy[0];
    }

    public int undo() {
        if (changes.isEmpty()) {
            return STATE;
        }
        Change c = changes.pop();
        undone.push(c);
        set(c.number, c.what, c.was);
        return changes.size();
    }

    public int redo() {
        if (undone.isEmpty()) {
            return STATE;
        }
        Change c = undone.pop();
        changes.push(c);
        set(c.number, c.what, c.v);
        return undone.size();
    }

    // ---- acts: the KINDS are Java's own classes

    private interface Lies {
        int n();

        void runs(int number);

        default int lies(int x) {
            runs(1);
            return x + n();
        }
    }

    private interface Tells {
        void runs(int number);

        int folds(int x);

        int turns(int x);

        default int tells(int x) {
            runs(2);
            return folds(x) - turns(1);
        }
    }

    private static class Frame implements Lies, Tells {
        private int n;
        private List<Integer> ran;

        public int n() {
            return n;
        }

        public void runs(int number) {
            ran.add(number);
        }

        public int folds(int x) {
            runs(10);
            return lies(x) * 2;
        }

        public int turns(int x) {
            runs(11);
            return x ^ n;
        }
    }

    private static class Cloth extends Frame {
        public int lies(int x) {
            runs(20);
            return super.lies(x) + 3;
        }
    }

    private static class Bar extends Frame {
        public int folds(int x) {
            runs(30);
            return -super.folds(x);
        }
    }

    private static class Notch extends Bar {
        public int turns(int x) {
            runs(40);
            return super.turns(x) * 3;
        }

        public int folds(int x) {
            runs(41);
            return super.folds(x + 1);
        }
    }

    private static class Stripe extends Cloth {
        public int turns(int x) {
            runs(50);
            return super.turns(x) - lies(2);
        }
    }

    private static class Finger extends Notch {
        public int tells(int x) {
            runs(60);
            return super.tells(x) ^ 5;
        }
    }

    private static class Sand extends Frame {
        public int lies(int x) {
            runs(70);
            return super.lies(x) * 2;
        }
    }

    private static class Child extends Stripe {
        public int folds(int x) {
            runs(80);
            return super.folds(x) + turns(2);
        }

        public int tells(int x) {
            runs(81);
            return super.tells(x) - 1;
        }
    }

    private static final List<Class<? extends Frame>> KINDS = List.of(Frame.class, Cloth.class, Bar.class, Notch.class,
        Stripe.class, Finger.class, Sand.class, Child.class);

    public int body(int kind) {
        if (!within(kind, 0, 7)) {
            return BAD;
        }
        if (frames.size() == 50) {
            return FULL;
        }
        Frame f = switch (kind) {
            case 0 -> new Frame();
            case 1 -> new Cloth();
            case 2 -> new Bar();
            case 3 -> new Notch();
            case 4 -> new Stripe();
            case 5 -> new Finger();
            case 6 -> new Sand();
            default -> new Child();
        };
        f.n = frames.size();
        f.ran = ran;
        frames.add(f);
        return f.n;
    }

    public int act(int body, int act, int x) {
        ran.clear();
        if (!within(body, 0, frames.size() - 1)) {
            return 0;
        }
        Frame f = frames.get(body);
        return switch (act) {
            case 0 -> f.lies(x);
            case 1 -> f.folds(x);
            case 2 -> f.turns(x);
            case 3 -> f.tells(x);
            default -> 0;
        };
    }

    public int trace(int i) {
        return within(i, 0, Math.min(24, ran.size()) - 1) ? ran.get(i) : BAD;
    }

    // ---- shelves: Java's own arrays

    public int keep(int shelf, int body) {
        if (!within(shelf, 0, 5) || !within(body, -1, frames.size() - 1)) {
            return BAD;
        }
        shelves[shelf] = body < 0 ? null : frames.get(body);
        return 1;
    }

    public int row(int shelf, int sort, int n) {
        if (!within(shelf, 0, 5) || !within(sort, 0, 4) || n > 60) {
            return BAD;
        }
        try {
            shelves[shelf] = Array.newInstance(List.of(byte.class, short.class, int.class, long.class, boolean.class).get(sort), n);
            return 1;
        } catch (NegativeArraySizeException e) {
            return SIZE;
        }
    }

    public int put(int shelf, int i, long v) {
        int answer = answerAt(shelf, i);
        if (answer == 1) {
            switch (List.of(byte[].class, short[].class, int[].class, long[].class).indexOf(shelves[shelf].getClass())) {
                case 0: Array.setByte(shelves[shelf], i, (byte) v); break;
                case 1: Array.setShort(shelves[shelf], i, (short) v); break;
                case 2: Array.setInt(shelves[shelf], i, (int) v); break;
                case 3: Array.setLong(shelves[shelf], i, v); break;
                default: Array.setBoolean(shelves[shelf], i, v != 0); break;
            }
        }
        return answer;
    }

    public long element(int shelf, int i) {
        if (answerAt(shelf, i) < 0) {
            return Long.MIN_VALUE;
        }
        return shelves[shelf] instanceof boolean[] b ? b[i] ? 1 : 0 : Array.getLong(shelves[shelf], i);
    }

    private int answerAt(int shelf, int i) {
        if (!within(shelf, 0, 5)) {
            return BAD;
        }
        try {
            Array.get(shelves[shelf], i);
            return 1;
        } catch (NullPointerException e) {
            return NOTHING;
        } catch (IllegalArgumentException e) {
            return KIND;
        } catch (IndexOutOfBoundsException e) {
            return PLACE;
        }
    }

    public int shift(int shelf, int i, int other, int j, int n) {
        if (!within(shelf, 0, 5) || !within(other, 0, 5)) {
            return BAD;
        }
        try {
            System.arraycopy(shelves[shelf], i, shelves[other], j, n);
            return n;
        } catch (NullPointerException e) {
            return NOTHING;
        } catch (ArrayStoreException e) {
            return KIND;
        } catch (IndexOutOfBoundsException e) {
            return PLACE;
        }
    }

    public int taken(int shelf, int k) {
        if (!within(shelf, 0, 5) || !within(k, 0, 7)) {
            return BAD;
        }
        if (shelves[shelf] == null) {
            return NOTHING;
        }
        try {
            return KINDS.indexOf(KINDS.get(k).cast(shelves[shelf]).getClass());
        } catch (ClassCastException e) {
            return KIND;
        }
    }

    public int count(int what) {
        int[] counts = {kit.size(), people.size(), tape.length(), changes.size(), frames.size(), ran.size()};
        return within(what, 0, 5) ? counts[what] : BAD;
    }
}
