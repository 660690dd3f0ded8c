/** Each argument of each call: the values that are allowed, and on both sides the first that is not. */
public final class RangesTest {
    private interface Call {
        long with(OpensLikeThat x, int v);
    }

    public static void main(String[] args) {
        movesAndPeople();
        mended();
        ways();
        learners();
        found();
        deed();
        shelves();
        whoHasComeYet();
        Check.end();
    }

    /** Allowed is what is not answered by BAD in an object that has come to hold all it can. */
    private static void holds(String told, int low, int high, Call call) {
        for (int v = low; v <= high; v += v < low + 60 || v > high - 60 ? 1 : high - low - 100) {
            allows(told, v, call);
        }
        refuses(told, call, low - 1, high + 1, -Math.abs(high) - 2, 2 * high + 100, Beach.LEAST, Beach.MOST);
    }

    private static void allows(String told, int v, Call call) {
        Check.due(told + ": " + v + " is BAD", 0, call.with(Beach.full(), v) == Beach.BAD ? 1 : 0);
    }

    private static void refuses(String told, Call call, int... values) {
        for (int v : values) {
            Check.due(told + ": " + v, Beach.BAD, call.with(Beach.full(), v));
            Check.due(told + ", a new object: " + v, Beach.BAD, call.with(new OpensLikeThat(), v));
        }
    }

    private static void movesAndPeople() {
        for (int wb : new int[] {1, 2, 11, 12, 21, 22, 31, 32}) {
            for (int from = 0; from <= 3; from++) {
                if (from != 2 || wb < 30) {
                    allows("move: FROM of " + wb, from, (x, v) -> x.move(wb, v));
                }
            }
            refuses("move: FROM of " + wb, (x, v) -> x.move(wb, v), -1, 4, 5, -3, Beach.LEAST, Beach.MOST);
        }
        refuses("move: FROM of SIDE", (x, v) -> x.move(31, v), 2);
        refuses("move: FROM of SIDE", (x, v) -> x.move(32, v), 2);
        refuses("move: WHAT and BY", (x, v) -> x.move(v, 3), 0, 3, 9, 10, 13, 20, 23, 30, 33, 34, 40, 41, 42, 51, 101,
            -1, -2, -8, -9, -10, -11, -12, Beach.LEAST, Beach.LEAST + 9, Beach.MOST, Beach.MOST - 5);
        holds("moves: shelf", 0, 5, (x, v) -> x.moves(v, 0, 1));
        holds("moves: n", 1, 12, (x, v) -> x.moves(0, 0, v));
        holds("person: DEFT", 0, 9, (x, v) -> x.person(v, 1));
        holds("person: LEARNS", 1, 9, (x, v) -> x.person(0, v));
        holds("feed", 0, 255, (x, v) -> x.feed(v));
        holds("leads: move", 0, 11, (x, v) -> x.leads(v, 0));
        refuses("leads: state", (x, v) -> x.leads(0, v), -1, 54, 55, 100, Beach.LEAST, Beach.MOST);
        holds("takes: one", -1, 5, (x, v) -> x.takes(v, 0, 0));
        holds("takes: move", 0, 11, (x, v) -> x.takes(-1, v, 0));
        for (int s = 0; s < 54; s++) {
            allows("leads: state", s, (x, v) -> x.leads(0, v));
            allows("takes: state", s, (x, v) -> x.takes(5, 11, v));
        }
        refuses("takes: state", (x, v) -> x.takes(-1, 0, v), -1, 54, 55, 100, Beach.LEAST, Beach.MOST);
    }

    private static void mended() {
        int[] high = {3, 3, 9, 9, 4095, 9};
        for (int what = 0; what < 6; what++) {
            int w = what;
            int numbers = what < 3 ? 11 : 5;
            holds("mend: v of " + what, what == 5 ? 1 : 0, high[what], (x, v) -> x.mend(4, w, v));
            holds("mend: number of " + what, 0, numbers, (x, v) -> x.mend(v, w, 1));
            holds("of: number of " + what, 0, numbers, (x, v) -> x.of(v, w));
        }
        for (int from : new int[] {0, 1, 3}) {
            allows("mend: FROM of SIDE", from, (x, v) -> x.mend(11, 0, v));
        }
        refuses("mend: FROM of SIDE", (x, v) -> x.mend(11, 0, v), -1, 2, 4, Beach.LEAST, Beach.MOST);
        holds("mend: what", 0, 5, (x, v) -> x.mend(0, v, 1));
        refuses("mend: what of() alone tells", (x, v) -> x.mend(0, v, 0), 6, 7, 8, 9);
        holds("of: number of WHAT", 0, 11, (x, v) -> x.of(v, 6));
        holds("of: number of BY", 0, 11, (x, v) -> x.of(v, 7));
        refuses("of: the STATE in deed", (x, v) -> x.of(v, 8), -1, 1, 5, 11, Beach.LEAST, Beach.MOST);
        Check.due("of: the STATE in deed", 0, new OpensLikeThat().of(0, 8));
        for (int what = 0; what <= 8; what++) {
            allows("of: what", what, (x, v) -> x.of(0, v));
        }
        refuses("of: what", (x, v) -> x.of(0, v), -1, 9, 10, 100, Beach.LEAST, Beach.MOST);
    }

    /** ps: 100 times one of the PEOPLE and 1 (0 .. 6: 0 nobody), and a STATE. */
    private static void ps(String told, int least, Call call) {
        for (int one = least; one <= 6; one++) {
            allows(told, 100 * one, call);
            allows(told, 100 * one + 53, call);
            for (int beside : new int[] {54, 55, 77, 99}) {
                refuses(told, call, 100 * one + beside);
            }
        }
        refuses(told, call, -1, -46, -47, -53, -99, -100, -101, -153, 700, 701, 753, 1000, Beach.LEAST, Beach.MOST);
    }

    private static void ways() {
        ps("way: ps", 0, (x, v) -> x.way(v, 0, 0));
        ps("next: ps", 0, (x, v) -> x.next(v, 0));
        ps("reach: ps", 0, (x, v) -> x.reach(v, 0));
        ps("backFrom: ps", 0, (x, v) -> x.backFrom(v));
        ps("needed: ps", 0, (x, v) -> x.needed(v));
        for (int s = 0; s <= 55; s++) {
            allows("way: to", s, (x, v) -> x.way(0, v, 1));
            allows("next: to", s, (x, v) -> x.next(653, v));
        }
        refuses("way: to", (x, v) -> x.way(0, v, 0), -1, 56, 57, 100, Beach.LEAST, Beach.MOST);
        refuses("next: to", (x, v) -> x.next(0, v), -1, 56, 57, 100, Beach.LEAST, Beach.MOST);
        asks("way: what", 1, (x, v) -> x.way(0, 0, v));
        asks("reach: what", 2, (x, v) -> x.reach(0, v));
        holds("worst: one", -1, 5, (x, v) -> x.worst(v, 0));
        asks("worst: what", 2, (x, v) -> x.worst(-1, v));
        for (int s = 0; s < 54; s++) {
            allows("ways: from", s, (x, v) -> x.ways(v, 0));
            allows("ways: to", s, (x, v) -> x.ways(0, v));
        }
        refuses("ways: from", (x, v) -> x.ways(v, 0), -1, 54, 55, 100, Beach.LEAST, Beach.MOST);
        refuses("ways: to", (x, v) -> x.ways(0, v), -1, 54, 55, 100, Beach.LEAST, Beach.MOST);
        asks("oneWay: what", 1, (x, v) -> x.oneWay(v));
    }

    private static void asks(String told, int most, Call call) {
        for (int v = 0; v <= most; v++) {
            allows(told, v, call);
        }
        refuses(told, call, -1, most + 1, most + 2, 100, Beach.LEAST, Beach.MOST);
    }

    private static void learners() {
        holds("learn: shelf", 0, 5, (x, v) -> x.learn(v, 0));
        holds("learn: one", 0, 5, (x, v) -> x.learn(0, v));
        ps("show: ps", 1, (x, v) -> x.show(v, 9, 0));
        refuses("show: nobody", (x, v) -> x.show(v, 9, 0), 0, 1, 36, 53);
        holds("show: s", 0, 999, (x, v) -> x.show(100, v, 0));
        asks("show: what", 1, (x, v) -> x.show(100, 9, v));
        holds("opens: shelf", 0, 5, (x, v) -> x.opens(v, 0, 0));
        holds("opens: one", 0, 5, (x, v) -> x.opens(0, v, 0));
        holds("opens: s", -2, 9999, (x, v) -> x.opens(0, 0, v));
        holds("bestFirst: shelf", 0, 5, (x, v) -> x.bestFirst(v, 0, 0));
        holds("bestFirst: one", 0, 5, (x, v) -> x.bestFirst(0, v, 0));
        holds("bestFirst: s", 0, 9999, (x, v) -> x.bestFirst(0, 0, v));
        holds("tide: shelf", 0, 5, (x, v) -> x.tide(v, 0, 1));
        holds("tide: one", 0, 5, (x, v) -> x.tide(0, v, 1));
        holds("tide: t", 1, 999, (x, v) -> x.tide(0, 0, v));
        holds("two: shelf", 0, 5, (x, v) -> x.two(v, 1));
        for (int ab = -70; ab <= 130; ab++) {
            boolean two = ab >= 0 && ab <= 55 && ab % 10 <= 5 && ab / 10 != ab % 10;
            if (two) {
                allows("two: ab", ab, (x, v) -> x.two(0, v));
            } else {
                refuses("two: ab", (x, v) -> x.two(0, v), ab);
            }
        }
        refuses("two: ab", (x, v) -> x.two(0, v), Beach.LEAST, Beach.MOST);
    }

    private static void found() {
        holds("judge: shelf", 0, 5, (x, v) -> x.judge(v, 0));
        holds("ends: shelf", 0, 5, (x, v) -> x.ends(v, 0));
        holds("who: shelf", 0, 5, (x, v) -> x.who(v, 0));
        holds("begun: shelf", 0, 5, (x, v) -> x.begun(v, 0, 0));
        holds("judge: state", 0, 53, (x, v) -> x.judge(0, v));
        holds("ends: state", 0, 53, (x, v) -> x.ends(0, v));
        holds("who: state", 0, 53, (x, v) -> x.who(0, v));
        holds("begun: end", 0, 53, (x, v) -> x.begun(0, v, 0));
        asks("begun: what", 1, (x, v) -> x.begun(0, 0, v));
        holdsAlways("drawn: state", 0, 53, (x, v) -> x.drawn(v, 5, 101, 0));
        holdsAlways("drawn: what", 0, 1, (x, v) -> x.drawn(0, 5, 101, v));
        for (int n = 1; n <= 50; n++) {
            allows("drawn: nm", 100 * n + 1, (x, v) -> x.drawn(0, 5, v, 0));
            allows("drawn: nm", 100 * n + 60, (x, v) -> x.drawn(0, 5, v, 0));
            refuses("drawn: m", (x, v) -> x.drawn(0, 5, v, 0), 100 * n, 100 * n + 61, 100 * n + 99);
        }
        refuses("drawn: n", (x, v) -> x.drawn(0, 5, v, 0), 0, 1, 60, 99, -1, -40, -99, -101, -160, 5101, 5160, 10001,
            Beach.LEAST, Beach.MOST);
        for (int seed : new int[] {0, -1, 1, Beach.LEAST, Beach.MOST}) {
            allows("drawn: any SEED", seed, (x, v) -> x.drawn(0, v, 5060, 1));
        }
    }

    /** Allowed in a new object, too. */
    private static void holdsAlways(String told, int low, int high, Call call) {
        holds(told, low, high, call);
        for (int v = low; v <= high; v++) {
            Check.due(told + ", a new object: " + v + " is BAD", 0, call.with(new OpensLikeThat(), v) == Beach.BAD ? 1 : 0);
        }
    }

    private static void deed() {
        holds("make: one", 0, 5, (x, v) -> x.make(v, 0));
        holds("make: move", 0, 11, (x, v) -> x.make(0, v));
        holdsAlways("lay", 0, 53, (x, v) -> x.lay(v));
        holdsAlways("led", 0, 3, (x, v) -> x.led(v));
    }

    private static void shelves() {
        holds("body", 0, 7, (x, v) -> x.body(v));
        holds("trace", 0, 13, RangesTest::traceOfChild);
        holdsAlways("keep: shelf", 0, 5, (x, v) -> x.keep(v, -1));
        holds("keep: body", -1, 49, (x, v) -> x.keep(0, v));
        holdsAlways("row: shelf", 0, 5, (x, v) -> x.row(v, 0, 0));
        holdsAlways("row: sort", 0, 4, (x, v) -> x.row(0, v, 0));
        for (int n = 0; n <= 60; n++) {
            allows("row: n", n, (x, v) -> x.row(5, 4, v));
        }
        refuses("row: n", (x, v) -> x.row(0, 0, v), 61, 62, 120, Beach.MOST);
        holds("put: shelf", 0, 5, (x, v) -> x.put(v, 0, 1));
        holds("shift: shelf", 0, 5, (x, v) -> x.shift(v, 0, 0, 0, 1));
        holds("shift: other", 0, 5, (x, v) -> x.shift(0, 0, v, 0, 1));
        holds("taken: shelf", 0, 5, (x, v) -> x.taken(v, 0));
        holds("taken: k", 0, 7, (x, v) -> x.taken(0, v));
        holdsAlways("count", 0, 5, (x, v) -> x.count(v));
    }

    private static int traceOfChild(OpensLikeThat x, int i) {
        x.act(x.count(4) > 0 ? 7 : 0, 3, 5);
        return x.trace(i);
    }

    /** Of MOVES, PEOPLE and BODIES the last that has come is allowed, the next is not. */
    private static void whoHasComeYet() {
        for (int n = 0; n <= 11; n++) {
            OpensLikeThat x = new OpensLikeThat();
            for (int i = 0; i < n; i++) {
                x.move(31, 3);
                x.body(0);
            }
            Beach.people(x, Math.min(6, n));
            comeYet(x, "MOVE, PEOPLE " + n, n);
            bodiesYet(x, n);
        }
    }

    private static void comeYet(OpensLikeThat x, String told, int n) {
        int p = Math.min(6, n);
        Check.due("leads, " + told, Beach.BAD, x.leads(n, 0));
        Check.due("takes, " + told, Beach.BAD, x.takes(-1, n, 0));
        Check.due("mend, " + told, Beach.BAD, x.mend(n, 2, 5));
        Check.due("of, " + told, Beach.BAD, x.of(n, 6));
        Check.due("mend one, " + told, Beach.BAD, x.mend(p, 3, 5));
        Check.due("of one, " + told, Beach.BAD, x.of(p, 5));
        Check.due("worst, " + told, Beach.BAD, x.worst(p, 0));
        Check.due("way, " + told, Beach.BAD, x.way(100 * p + 100, 0, 0));
        Check.due("show, " + told, Beach.BAD, x.show(100 * p + 100, 0, 0));
        Check.due("learn, " + told, Beach.BAD, x.learn(0, p));
        if (n > 0) {
            Check.due("make, " + told, Beach.BAD, x.make(0, n));
            Check.due("make of one, " + told, Beach.BAD, x.make(p, 0));
            Check.due("the last make, " + told, 1, x.make(p - 1, n - 1));
            Check.due("the last leads, " + told, 0, x.leads(n - 1, 1));
            Check.due("the last takes, " + told, 1, x.takes(p - 1, n - 1, 0) > 0 ? 1 : 0);
            Check.due("the last mend, " + told, 1, x.mend(n - 1, 2, 7));
            Check.due("the last of, " + told, 7, x.of(n - 1, 2));
            Check.due("the last one's way, " + told, 0, x.way(100 * p, 0, 0));
            Check.due("the last one's learn, " + told, Beach.BARE, x.learn(0, p - 1));
        }
    }

    private static void bodiesYet(OpensLikeThat x, int n) {
        Check.due("keep of " + n, Beach.BAD, x.keep(0, n));
        Check.due("act of " + n, 0, x.act(n, 0, 5));
        Check.due("none ran", 0, x.count(5));
        if (n > 0) {
            Check.due("the last keep of " + n, 1, x.keep(0, n - 1));
            Check.due("the last act of " + n, 5 + n - 1, x.act(n - 1, 0, 5));
        }
    }
}
