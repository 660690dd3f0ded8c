import java.util.ArrayDeque;
import java.util.Arrays;
import java.util.Random;

/** Random beaches, laws and rows against a model that works everything out the slow way. */
public final class ModelTest {
    private static final int FAR = 1 << 28;
    private static final Random random = new Random(20261118L);
    private static final int[] WEIGHT = {18, 6, 2, 1};

    private static OpensLikeThat x;
    private static int moves;
    private static int people;
    private static int[][] move;
    private static int[] deft;
    private static int[] knows;
    private static int[] learns;
    private static String law;

    public static void main(String[] args) {
        for (int run = 0; run < 150; run++) {
            choose(run);
            begin();
            seconds();
            drawn();
            if (run % 5 == 0) {
                shown();
            }
            ways();
            begin();
            rows();
        }
        faults();
        Check.end();
    }

    private static int upTo(int n) {
        return random.nextInt(n);
    }

    private static void choose(int run) {
        moves = run % 13;
        people = 1 + upTo(6);
        move = new int[moves][];
        for (int m = 0; m < moves; m++) {
            int what = upTo(4);
            int from = upTo(2) == 0 ? 3 : upTo(what == 3 ? 2 : 3);
            int needs = upTo(2) == 0 ? 3 : upTo(3);
            move[m] = new int[] {what, 1 + upTo(2), from, needs, upTo(10)};
        }
        deft = new int[people];
        knows = new int[people];
        learns = new int[people];
        for (int p = 0; p < people; p++) {
            deft[p] = upTo(10);
            learns[p] = 1 + upTo(9);
            knows[p] = upTo(2) * upTo(4096);
        }
        law = null;
        if (run % 3 != 0) {
            law = run % 3 == 1 ? text() : "(1+h)*(3-k)+f-n*" + upTo(4) + "+m%3-d/" + (1 + upTo(4));
        }
    }

    /** An object as it was chosen, by 170 calls at most: so 340 are left to ask it. */
    private static void begin() {
        x = new OpensLikeThat();
        for (int m = 0; m < moves; m++) {
            Check.due("move", m, x.move(move[m][0] * 10 + move[m][1], move[m][2]));
            x.mend(m, 1, move[m][3]);
            x.mend(m, 2, move[m][4]);
        }
        for (int p = 0; p < people; p++) {
            Check.due("person", p, x.person(deft[p], learns[p]));
            x.mend(p, 4, knows[p]);
        }
        if (law != null) {
            Check.due("law " + law, 1, Beach.law(x, law));
        }
    }

    // ---- texts: made by the grammar, worked out by splitting at the loosest sign

    private static String text() {
        String t;
        do {
            StringBuilder b = new StringBuilder(line());
            for (int i = upTo(3); i > 0; i--) {
                b.append(';').append(line());
            }
            t = b.toString();
        } while (t.length() > 120);
        return t;
    }

    private static String line() {
        return upTo(2) == 0 ? level(0, 0) : level(0, 0) + "?" + level(0, 0);
    }

    private static String level(int level, int depth) {
        String[] signs = {"|", "&", "<=>", "+-", "*/%"};
        if (level == 5) {
            return operand(depth);
        }
        StringBuilder b = new StringBuilder(level(level + 1, depth));
        int more = upTo(4) == 0 ? 1 + upTo(level == 2 ? 1 : 2) : 0;
        for (int i = 0; i < more; i++) {
            b.append(signs[level].charAt(upTo(signs[level].length()))).append(level(level + 1, depth));
        }
        return b.toString();
    }

    private static String operand(int depth) {
        int which = upTo(depth < 6 ? 9 : 6);
        if (which < 3) {
            return String.valueOf(upTo(new int[] {3, 20, 10000}[upTo(3)]));
        }
        if (which < 6) {
            return String.valueOf("dhfnkm".charAt(upTo(6)));
        }
        return which == 6 ? "!" + operand(depth + 1) : which == 7 ? "-" + operand(depth + 1) : "(" + level(0, depth + 1) + ")";
    }

    private static int secondsBy(String text, int[] names) {
        for (String line : text.split(";")) {
            String[] parts = line.split("\\?");
            if (parts.length == 1 || value(parts[0], names) != 0) {
                return Math.max(0, Math.min(99, value(parts[parts.length - 1], names)));
            }
        }
        return 0;
    }

    private static int value(String e, int[] names) {
        for (String signs : new String[] {"|", "&", "<=>", "+-", "*/%"}) {
            int at = lastSign(e, signs);
            if (at > 0) {
                return joined(e.charAt(at), value(e.substring(0, at), names), value(e.substring(at + 1), names));
            }
        }
        char c = e.charAt(0);
        if (c == '!') {
            return value(e.substring(1), names) == 0 ? 1 : 0;
        }
        if (c == '-') {
            return -value(e.substring(1), names);
        }
        if (c == '(') {
            return value(e.substring(1, e.length() - 1), names);
        }
        return "dhfnkm".indexOf(c) >= 0 ? names["dhfnkm".indexOf(c)] : Integer.parseInt(e);
    }

    /** The last sign outside brackets that stands behind an operand. */
    private static int lastSign(String e, String signs) {
        int open = 0;
        for (int i = e.length() - 1; i > 0; i--) {
            char c = e.charAt(i);
            open += c == ')' ? 1 : c == '(' ? -1 : 0;
            if (open == 0 && signs.indexOf(c) >= 0 && "dhfnkm0123456789)".indexOf(e.charAt(i - 1)) >= 0) {
                return i;
            }
        }
        return -1;
    }

    private static int joined(char sign, int a, int b) {
        switch (sign) {
            case '|': return a != 0 | b != 0 ? 1 : 0;
            case '&': return a != 0 & b != 0 ? 1 : 0;
            case '<': return a < b ? 1 : 0;
            case '=': return a == b ? 1 : 0;
            case '>': return a > b ? 1 : 0;
            case '+': return a + b;
            case '-': return a - b;
            case '*': return a * b;
            case '/': return b == 0 ? 0 : a / b;
            default: return b == 0 ? 0 : a % b;
        }
    }

    /** A reader of one byte after the other, with what is open on a heap. */
    private static int faultOf(String t) {
        ArrayDeque<Character> open = new ArrayDeque<>();
        ArrayDeque<Boolean> compared = new ArrayDeque<>();
        compared.push(false);
        boolean wants = true;
        boolean asked = false;
        int digits = 0;
        for (int i = 0; i < t.length(); i++) {
            char c = t.charAt(i);
            boolean digit = c >= '0' && c <= '9';
            if (wants) {
                if (digit || "dhfnkm".indexOf(c) >= 0) {
                    digits = digit ? 1 : 4;
                    wants = false;
                    closeSigns(open);
                } else if ("(!-".indexOf(c) >= 0 && open.size() < 6) {
                    open.push(c);
                    if (c == '(') {
                        compared.push(false);
                    }
                } else {
                    return i;
                }
                continue;
            }
            if (digit) {
                if (digits == 4) {
                    return i;
                }
                digits++;
                continue;
            }
            digits = 4;
            if (c == ')') {
                if (open.isEmpty()) {
                    return i;
                }
                open.pop();
                compared.pop();
                closeSigns(open);
                continue;
            }
            wants = true;
            if ("|&?;".indexOf(c) >= 0) {
                compared.pop();
                compared.push(false);
            }
            if ("<=>".indexOf(c) >= 0) {
                if (compared.pop()) {
                    return i;
                }
                compared.push(true);
            } else if (c == '?' || c == ';') {
                if (!open.isEmpty() || c == '?' && asked) {
                    return i;
                }
                asked = c == '?';
            } else if ("|&+-*/%".indexOf(c) < 0) {
                return i;
            }
        }
        return wants || !open.isEmpty() ? t.length() : -1;
    }

    private static void closeSigns(ArrayDeque<Character> open) {
        while (!open.isEmpty() && open.peek() != '(') {
            open.pop();
        }
    }

    private static void faults() {
        String signs = "dhfnkm0123456789()!-+*/%<=>&|?;xK \u0000\u00ff";
        for (int i = 0; i < 20000; i++) {
            x = new OpensLikeThat();
            StringBuilder b = new StringBuilder(text());
            for (int k = upTo(3); k > 0 && b.length() > 0; k--) {
                int at = upTo(b.length());
                switch (upTo(4)) {
                    case 0: b.setCharAt(at, signs.charAt(upTo(signs.length()))); break;
                    case 1: b.deleteCharAt(at); break;
                    case 2: b.insert(at, signs.charAt(upTo(signs.length()))); break;
                    default: b.setLength(at); break;
                }
            }
            if (upTo(20) == 0) {
                b.insert(0, "(!-(-(!-!".substring(0, upTo(9)));
            }
            b.setLength(Math.min(120, b.length()));
            int fault = faultOf(b.toString());
            Check.due("law " + b, fault < 0 ? 1 : -100 - fault, Beach.law(x, b.toString()));
        }
    }

    // ---- the model

    private static int after(int m, int s) {
        int[] v = move[m];
        int round = v[0] == 3 ? 2 : 3;
        int part = s / WEIGHT[v[0]] % round;
        if (v[2] != 3 && v[2] != part || v[3] != 3 && v[3] != s / 18) {
            return -2;
        }
        return s - part * WEIGHT[v[0]] + (part + v[1]) % round * WEIGHT[v[0]];
    }

    private static int takes(int p, int known, int m, int s) {
        if (p < 0) {
            return 1;
        }
        int k = known >> m & 1;
        if (law == null) {
            return Math.max(1, (1 + move[m][4]) * (2 - k) - deft[p] / 3);
        }
        return secondsBy(law, new int[] {deft[p], move[m][4], s / 18, s / 2 % 3, k, m});
    }

    private static boolean meets(int s, int to) {
        return to < 54 ? s == to : to == 55 ? s < 18 : s == 36 || s == 38 || s == 40;
    }

    /** Between each two STATES, by Floyd and Warshall. */
    private static int[][] between(int p, int known, boolean bySeconds, int without, boolean unshut) {
        int[][] far = new int[54][54];
        for (int s = 0; s < 54; s++) {
            Arrays.fill(far[s], FAR);
            far[s][s] = unshut && s < 18 ? FAR : 0;
            for (int m = 0; m < moves; m++) {
                int to = after(m, s);
                int seconds = takes(p, known, m, s);
                if (m != without && to >= 0 && seconds > 0 && !(unshut && (s < 18 || to < 18))) {
                    far[s][to] = Math.min(far[s][to], bySeconds ? seconds : 1);
                }
            }
        }
        for (int v = 0; v < 54; v++) {
            for (int s = 0; s < 54; s++) {
                for (int t = 0; t < 54; t++) {
                    far[s][t] = Math.min(far[s][t], far[s][v] + far[v][t]);
                }
            }
        }
        return far;
    }

    private static int toAim(int[][] far, int s, int to) {
        int least = FAR;
        for (int t = 0; t < 54; t++) {
            if (meets(t, to)) {
                least = Math.min(least, far[s][t]);
            }
        }
        return least;
    }

    private static int known(int p) {
        return p < 0 ? 0 : knows[p];
    }

    private static void seconds() {
        for (int i = 0; i < 60 && moves > 0; i++) {
            int p = upTo(people + 1) - 1;
            int m = upTo(moves);
            int s = upTo(54);
            Check.due("leads(" + m + ", " + s + ")", after(m, s), x.leads(m, s));
            Check.due("takes by " + law, takes(p, known(p), m, s), x.takes(p, m, s));
        }
    }

    private static void ways() {
        int p = upTo(people + 1) - 1;
        int[][] steps = between(p, known(p), false, -1, false);
        int[][] secs = between(p, known(p), true, -1, false);
        int[][] dry = between(p, known(p), false, -1, true);
        int[][] nobodys = between(-1, 0, false, -1, false);
        int[][][] less = new int[moves][][];
        int[] left = new int[moves];
        for (int m = 0; m < moves; m++) {
            less[m] = between(p, known(p), false, m, false);
            left[m] = 54 - cannot(between(-1, 0, false, m, false));
        }
        for (int s = 0; s < 54; s++) {
            if (s % 12 == 0) {
                begin();
            }
            int ps = 100 * (p + 1) + s;
            String told = " from " + ps + " by " + law;
            for (int to : new int[] {54, 55, upTo(54), upTo(54), s}) {
                int a = toAim(steps, s, to);
                int b = toAim(secs, s, to);
                Check.due("way 0 to " + to + told, a < FAR ? a : -2, x.way(ps, to, 0));
                Check.due("way 1 to " + to + told, b < FAR ? b : -2, x.way(ps, to, 1));
                Check.due("next to " + to + told, firstMove(p, secs, s, to), x.next(ps, to));
            }
            int[] reached = {0, 0, 0};
            int back = 1;
            for (int t = 0; t < 54; t++) {
                reached[0] += steps[s][t] < FAR ? 1 : 0;
                reached[1] += steps[s][t] < FAR && meets(t, 54) ? 1 : 0;
                reached[2] += dry[s][t] < FAR ? 1 : 0;
                back = steps[s][t] < FAR && steps[t][s] >= FAR ? 0 : back;
            }
            for (int what = 0; what < 3; what++) {
                Check.due("reach " + what + told, reached[what], x.reach(ps, what));
            }
            Check.due("backFrom" + told, back, x.backFrom(ps));
            int bits = 0;
            for (int m = 0; m < moves; m++) {
                bits |= toAim(less[m], s, 54) >= FAR ? 1 << m : 0;
            }
            Check.due("needed" + told, toAim(steps, s, 54) >= FAR ? -2 : bits, x.needed(ps));
            int to = upTo(54);
            Check.due("ways " + s + " to " + to, walks(s, to, nobodys[s][to]), x.ways(s, to));
        }
        int worst = 36;
        for (int s = 53; s >= 0; s--) {
            int a = toAim(steps, s, 54);
            worst = a < FAR && a >= toAim(steps, worst, 54) ? s : worst;
        }
        Check.due("worst 0", worst, x.worst(p, 0));
        Check.due("worst 1", toAim(steps, worst, 54), x.worst(p, 1));
        Check.due("worst 2", cannot(steps), x.worst(p, 2));
        int one = -2;
        for (int m = moves - 1; m >= 0; m--) {
            one = one < 0 || left[m] <= left[one] ? m : one;
        }
        Check.due("oneWay 0", one, x.oneWay(0));
        Check.due("oneWay 1", one < 0 ? -2 : left[one], x.oneWay(1));
    }

    private static int cannot(int[][] far) {
        int how = 0;
        for (int s = 0; s < 54; s++) {
            how += toAim(far, s, 54) >= FAR ? 1 : 0;
        }
        return how;
    }

    private static int firstMove(int p, int[][] secs, int s, int to) {
        int due = toAim(secs, s, to);
        for (int m = 0; m < moves && due > 0 && due < FAR; m++) {
            int t = after(m, s);
            int k = takes(p, known(p), m, s);
            if (t >= 0 && k > 0 && k + toAim(secs, t, to) == due) {
                return m;
            }
        }
        return -2;
    }

    /** Walks of just so many MOVES, counted step by step from the beginning. */
    private static int walks(int s, int to, int steps) {
        if (steps >= FAR) {
            return 0;
        }
        double[] now = new double[54];
        now[s] = 1;
        for (int i = 0; i < steps; i++) {
            double[] then = new double[54];
            for (int t = 0; t < 54; t++) {
                for (int m = 0; m < moves; m++) {
                    if (after(m, t) >= 0) {
                        then[after(m, t)] += now[t];
                    }
                }
            }
            now = then;
        }
        return (int) Math.min(9999, now[to]);
    }

    private static int[] row(int most, int below) {
        int[] r = new int[upTo(most + 1)];
        for (int i = 0; i < r.length; i++) {
            r[i] = upTo(15) == 0 ? upTo(256) - 128 : upTo(below);
        }
        return r;
    }

    private static void rows() {
        int p = upTo(people);
        int[][] secs = between(p, knows[p], true, -1, false);
        attended(p, secs, row(60, 54));
        attended(p, secs, random.ints(upTo(61), 0, 54).toArray());
        found(p);
    }

    private static void attended(int p, int[][] secs, int[] told) {
        Beach.bytes(x, 0, told);
        int[] r = Arrays.copyOf(told, statesAhead(told));
        int[] times = timesOf(secs, r);
        int by = upTo(200);
        int now = 0;
        int open = 0;
        int left = 0;
        int late = -2;
        int t = 1 + upTo(30);
        for (int k = 0; k < r.length; k++) {
            left += times[k] < 0 ? 1 : 0;
            now += Math.max(0, times[k]);
            open += times[k] >= 0 && now <= by ? 1 : 0;
            late = late == -2 && (times[k] < 0 || now > (k + 1) * t) ? k : late;
        }
        Check.due("opens", open, x.opens(0, p, by));
        Check.due("opens -1", now, x.opens(0, p, -1));
        Check.due("opens -2", left, x.opens(0, p, -2));
        Check.due("tide", late, x.tide(0, p, t));
        int[] sorted = times.clone();
        Arrays.sort(sorted);
        int best = 0;
        int sum = 0;
        for (int k : sorted) {
            sum += Math.max(0, k);
            best += k >= 0 && sum <= by ? 1 : 0;
        }
        Check.due("bestFirst", best, x.bestFirst(0, p, by));
        int other = upTo(people);
        if (other != p) {
            int[] others = timesOf(between(other, knows[other], true, -1, false), r);
            int[] free = {0, 0};
            for (int k = 0; k < r.length; k++) {
                int which = free[1] < free[0] ? 1 : 0;
                free[which] += Math.max(0, which == 0 ? times[k] : others[k]);
            }
            Check.due("two", Math.max(0, now - Math.max(free[0], free[1])), x.two(0, 10 * p + other));
        }
    }

    private static int statesAhead(int[] told) {
        int how = 0;
        while (how < told.length && told[how] >= 0 && told[how] <= 53) {
            how++;
        }
        return how;
    }

    private static int[] timesOf(int[][] secs, int[] r) {
        int[] times = new int[r.length];
        for (int k = 0; k < r.length; k++) {
            int far = toAim(secs, r[k], 54);
            times[k] = far >= FAR ? -1 : far;
        }
        return times;
    }

    /** The STATE behind a ROW, or less than 0: -1 less the place of the first that MAY not be made. */
    private static int behind(int[] r, int s, int p) {
        int at = s;
        for (int k = 0; k < r.length; k++) {
            int to = r[k] < 0 || r[k] >= moves ? -2 : after(r[k], at);
            if (to < 0 || takes(p, known(p), r[k], at) == 0) {
                return -1 - k;
            }
            at = to;
        }
        return at;
    }

    private static void found(int one) {
        for (int i = 0; i < 10; i++) {
            int[] r = row(i, Math.max(1, moves));
            Beach.bytes(x, 1, r);
            int s = upTo(54);
            int behind = behind(r, s, -1);
            int first = behind < 0 ? -1 - behind : -2;
            Check.due("judge", first, x.judge(1, s));
            Check.due("ends", behind < 0 ? behind(Arrays.copyOf(r, first), s, -1) : behind, x.ends(1, s));
            int bits = 0;
            for (int p = 0; p < people; p++) {
                bits |= behind(r, s, p) >= 0 ? 1 << p : 0;
            }
            Check.due("who", bits, x.who(1, s));
            int end = behind < 0 ? upTo(54) : behind;
            int many = 0;
            int least = -2;
            for (int b = 53; b >= 0; b--) {
                if (behind(r, b, -1) == end) {
                    many++;
                    least = b;
                }
            }
            Check.due("begun 0", many, x.begun(1, end, 0));
            Check.due("begun 1", least, x.begun(1, end, 1));
            int known = knows[one];
            for (int m = 0; m < moves; m++) {
                int seen = 0;
                for (int k = 0; k < r.length && r[k] >= 0 && r[k] < moves; k++) {
                    seen += r[k] == m ? 1 : 0;
                }
                known |= seen >= learns[one] ? 1 << m : 0;
            }
            Check.due("learn", known, x.learn(1, one));
        }
    }

    private static void drawn() {
        for (int i = 0; i < 20; i++) {
            int s = upTo(2) == 0 ? 36 : upTo(54);
            int seed = random.nextInt();
            int n = 1 + upTo(50);
            int m = 1 + upTo(60);
            int z = seed;
            int[] chairs = {0, 0};
            for (int c = 0; c < n; c++) {
                int at = s;
                boolean was = meets(s, 54);
                for (int k = 0; k < m; k++) {
                    z = z * 1103515245 + 12345;
                    int[] can = new int[12];
                    int how = 0;
                    for (int v = 0; v < moves; v++) {
                        if (after(v, at) >= 0) {
                            can[how++] = after(v, at);
                        }
                    }
                    at = how == 0 ? at : can[(z >>> 8) % how];
                    was |= meets(at, 54);
                }
                chairs[0] += meets(at, 54) ? 1 : 0;
                chairs[1] += was ? 1 : 0;
            }
            Check.due("drawn 0", chairs[0], x.drawn(s, seed, 100 * n + m, 0));
            Check.due("drawn 1", chairs[1], x.drawn(s, seed, 100 * n + m, 1));
        }
    }

    private static void shown() {
        int p = upTo(people);
        int[][][] far = new int[1 << moves][][];
        for (int i = 0; i < 4; i++) {
            int s = upTo(54);
            int limit = upTo(30);
            int best = -2;
            for (int many = 0; many <= 3 && best < 0; many++) {
                for (int bits = 0; bits < 1 << moves && best < 0; bits++) {
                    if (Integer.bitCount(bits) == many) {
                        if (far[bits] == null) {
                            far[bits] = between(p, knows[p] | bits, true, -1, false);
                        }
                        best = toAim(far[bits], s, 54) <= limit ? bits : best;
                    }
                }
            }
            int ps = 100 * (p + 1) + s;
            Check.due("show which", best, x.show(ps, limit, 1));
            Check.due("show how many", best < 0 ? -2 : Integer.bitCount(best), x.show(ps, limit, 0));
        }
    }
}
