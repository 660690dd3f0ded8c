/** Promises 37 to 46: FRAMES and their acts, shelves, counts. */
public final class ShelvesTest {
    public static void main(String[] args) {
        body();
        actsOfEachKind();
        traces();
        noAct();
        keep();
        rows();
        putCuts();
        refusals();
        shift();
        taken();
        count();
        actsByHand();
        traceOfTheLatest();
        whatAShelfHolds();
        rowOfSixty();
        shiftOfSixty();
        shiftOfEachSort();
        takenOfFifty();
        countOfAll();
        Check.end();
    }

    private static void body() {
        OpensLikeThat x = new OpensLikeThat();
        Check.due("body(-1)", Beach.BAD, x.body(-1));
        Check.due("body(8)", Beach.BAD, x.body(8));
        for (int i = 0; i < 50; i++) {
            Check.due("body", i, x.body(i % 8));
        }
        Check.due("one too many", Beach.FULL, x.body(0));
        Check.due("BAD ahead of FULL", Beach.BAD, x.body(8));
        Check.due("count", 50, x.count(4));
    }

    // The same acts by Java's own inheritance, as the document writes them.
    private interface Lies {
        int n();

        default int lies(int x) {
            return x + n();
        }
    }

    private interface Tells {
        int folds(int x);

        int turns(int x);

        default int tells(int x) {
            return folds(x) - turns(1);
        }
    }

    private static class Frame implements Lies, Tells {
        int n;

        public int n() {
            return n;
        }

        public int folds(int x) {
            return lies(x) * 2;
        }

        public int turns(int x) {
            return x ^ n;
        }
    }

    private static class Cloth extends Frame {
        public int lies(int x) {
            return super.lies(x) + 3;
        }
    }

    private static class Bar extends Frame {
        public int folds(int x) {
            return -super.folds(x);
        }
    }

    private static class Notch extends Bar {
        public int turns(int x) {
            return super.turns(x) * 3;
        }

        public int folds(int x) {
            return super.folds(x + 1);
        }
    }

    private static class Stripe extends Cloth {
        public int turns(int x) {
            return super.turns(x) - lies(2);
        }
    }

    private static class Finger extends Notch {
        public int tells(int x) {
            return super.tells(x) ^ 5;
        }
    }

    private static class Sand extends Frame {
        public int lies(int x) {
            return super.lies(x) * 2;
        }
    }

    private static class Child extends Stripe {
        public int folds(int x) {
            return super.folds(x) + turns(2);
        }

        public int tells(int x) {
            return super.tells(x) - 1;
        }
    }

    private static int dueOf(Frame f, int act, int x) {
        switch (act) {
            case 0: return f.lies(x);
            case 1: return f.folds(x);
            case 2: return f.turns(x);
            default: return f.tells(x);
        }
    }

    /** "ACTS with x (an int that wraps)"; "n its number": each KIND, each of 50 numbers. */
    private static void actsOfEachKind() {
        int[] xs = {0, 1, -1, 7, 1000, Integer.MAX_VALUE, Integer.MAX_VALUE - 48, Integer.MIN_VALUE, 0x40000000, 0x55555555};
        for (int n = 0; n < 50; n++) {
            int kind = (n * 3 + n / 8) % 8;
            OpensLikeThat x = new OpensLikeThat();
            for (int i = 0; i < 50; i++) {
                x.body(i == n ? kind : 7);
            }
            Frame[] kinds = {new Frame(), new Cloth(), new Bar(), new Notch(), new Stripe(), new Finger(), new Sand(), new Child()};
            kinds[kind].n = n;
            for (int act = 0; act < 4; act++) {
                for (int v : xs) {
                    Check.due("kind " + kind + " act " + act + " x " + v, dueOf(kinds[kind], act, v), x.act(n, act, v));
                }
            }
        }
    }

    private static void traced(int kind, int act, int... due) {
        OpensLikeThat x = new OpensLikeThat();
        x.body(0);
        x.body(kind);
        x.act(0, 3, 9);
        x.act(1, act, 5);
        Check.due("ran, kind " + kind + " act " + act, due.length, x.count(5));
        for (int i = 0; i < due.length; i++) {
            Check.due("trace(" + i + "), kind " + kind + " act " + act, due[i], x.trace(i));
        }
        Check.due("behind the trace", Beach.BAD, x.trace(due.length));
        Check.due("ahead of the trace", Beach.BAD, x.trace(-1));
    }

    private static void traces() {
        traced(0, 0, 1);
        traced(0, 1, 10, 1);
        traced(0, 2, 11);
        traced(0, 3, 2, 10, 1, 11);
        traced(1, 0, 20, 1);
        traced(1, 1, 10, 20, 1);
        traced(2, 1, 30, 10, 1);
        traced(3, 1, 41, 30, 10, 1);
        traced(3, 2, 40, 11);
        traced(3, 3, 2, 41, 30, 10, 1, 40, 11);
        traced(4, 2, 50, 11, 20, 1);
        traced(4, 3, 2, 10, 20, 1, 50, 11, 20, 1);
        traced(5, 3, 60, 2, 41, 30, 10, 1, 40, 11);
        traced(6, 0, 70, 1);
        traced(6, 3, 2, 10, 70, 1, 11);
        traced(7, 0, 20, 1);
        traced(7, 1, 80, 10, 20, 1, 50, 11, 20, 1);
        traced(7, 3, 81, 2, 80, 10, 20, 1, 50, 11, 20, 1, 50, 11, 20, 1);
    }

    private static void noAct() {
        int[][] wrong = {{-1, 0}, {2, 0}, {3, 3}, {50, 0}, {0, -1}, {1, -2}, {0, 4}, {1, 4}, {0, 5}, {1, 5}, {1, 9}, {0, 30},
            {0, Integer.MIN_VALUE}, {0, Integer.MAX_VALUE}, {Integer.MIN_VALUE, 0}, {Integer.MAX_VALUE, 0},
            {Integer.MIN_VALUE, Integer.MAX_VALUE}};
        for (int[] w : wrong) {
            OpensLikeThat x = new OpensLikeThat();
            x.body(7);
            x.body(0);
            Check.due("an act", 12, x.act(1, 1, 5));
            Check.due("no act", 0, x.act(w[0], w[1], 5));
            Check.due("no trace then", Beach.BAD, x.trace(0));
            Check.due("none ran", 0, x.count(5));
        }
    }

    private static void keep() {
        OpensLikeThat x = new OpensLikeThat();
        Check.due("no body", Beach.BAD, x.keep(0, 0));
        x.body(3);
        Check.due("keep", 1, x.keep(0, 0));
        Check.due("its kind", 3, x.taken(0, 0));
        Check.due("nothing", 1, x.keep(0, -1));
        Check.due("nothing is there", Beach.BARE, x.taken(0, 0));
        Check.due("no such body", Beach.BAD, x.keep(0, -2));
        Check.due("no such body", Beach.BAD, x.keep(0, 1));
        Check.due("no such shelf", Beach.BAD, x.keep(6, 0));
        Check.due("no such shelf", Beach.BAD, x.keep(-1, -1));
        x.row(5, 0, 3);
        Check.due("instead of a ROW", 1, x.keep(5, 0));
        Check.due("no ROW", Beach.KIND, x.put(5, 0, 1));
        Check.due("a ROW instead", 1, x.row(5, 3, 1));
        Check.due("no FRAME", Beach.KIND, x.taken(5, 0));
    }

    private static void rows() {
        OpensLikeThat x = new OpensLikeThat();
        Check.due("no shelf", Beach.BAD, x.row(6, 0, 1));
        Check.due("no shelf", Beach.BAD, x.row(-1, 0, 1));
        Check.due("no sort", Beach.BAD, x.row(0, 5, 1));
        Check.due("no sort", Beach.BAD, x.row(0, -1, 1));
        Check.due("too long", Beach.BAD, x.row(0, 0, 61));
        Check.due("below 0", Beach.SIZE, x.row(0, 0, -1));
        Check.due("BAD ahead of -14", Beach.BAD, x.row(0, 5, -1));
        Check.due("BAD ahead of -14", Beach.BAD, x.row(6, 0, -1));
        Check.due("nothing came", Beach.BARE, x.put(0, 0, 0));
        Check.due("an empty one", 1, x.row(0, 0, 0));
        Check.due("no place in it", Beach.PLACE, x.put(0, 0, 0));
    }

    private static void putCuts() {
        OpensLikeThat x = new OpensLikeThat();
        long[] vs = {0, 1, -1, 127, 128, -129, 255, 256, 32767, 32768, 65536, 0x7fffffffL, 0x80000000L,
            0x100000000L, Long.MAX_VALUE, Long.MIN_VALUE, 0x123456789abcdef0L};
        for (int sort = 0; sort < 5; sort++) {
            x.row(0, sort, 3);
            for (long v : vs) {
                long[] due = {(byte) v, (short) v, (int) v, v, v != 0 ? 1 : 0};
                Check.due("put", 1, x.put(0, 1, v));
                Check.due("element of " + v, due[sort], x.element(0, 1));
                Check.due("the one ahead", 0, x.element(0, 0));
                Check.due("the one behind", 0, x.element(0, 2));
            }
        }
    }

    private static void refusals() {
        OpensLikeThat x = new OpensLikeThat();
        x.body(0);
        x.keep(1, 0);
        x.row(2, 4, 3);
        int[][] calls = {{-1, 0, Beach.BAD}, {6, 0, Beach.BAD}, {0, -1, Beach.BARE}, {1, -1, Beach.KIND},
            {2, -1, Beach.PLACE}, {2, 3, Beach.PLACE}, {2, Integer.MAX_VALUE, Beach.PLACE}, {2, Integer.MIN_VALUE, Beach.PLACE}};
        for (int[] c : calls) {
            Check.due("put " + c[0] + " " + c[1], c[2], x.put(c[0], c[1], 5));
            Check.due("element " + c[0] + " " + c[1], Long.MIN_VALUE, x.element(c[0], c[1]));
        }
        Check.due("put", 1, x.put(2, 2, 5));
        Check.due("element", 1, x.element(2, 2));
    }

    private static void shift() {
        OpensLikeThat x = new OpensLikeThat();
        x.body(0);
        x.row(0, 0, 6);
        x.row(1, 0, 4);
        x.row(2, 1, 6);
        x.keep(3, 0);
        int[][] calls = {{-1, 0, 0, 0, 1, Beach.BAD}, {0, 0, 6, 0, 1, Beach.BAD}, {4, 0, 0, 0, 1, Beach.BARE},
            {0, 0, 4, 0, 1, Beach.BARE}, {3, 0, 4, 0, 1, Beach.BARE}, {3, 0, 0, 0, 1, Beach.KIND}, {0, 0, 3, 0, 1, Beach.KIND},
            {3, 0, 3, 0, 0, Beach.KIND}, {0, 0, 2, 0, 1, Beach.KIND}, {0, -1, 2, 0, 0, Beach.KIND}, {0, -1, 1, 0, 1, Beach.PLACE},
            {0, 0, 1, -1, 1, Beach.PLACE}, {0, 0, 1, 0, -1, Beach.PLACE}, {0, 0, 1, 0, 5, Beach.PLACE}, {0, 4, 1, 0, 3, Beach.PLACE},
            {0, 0, 1, 3, 2, Beach.PLACE}, {0, 7, 1, 0, 0, Beach.PLACE}, {0, 6, 1, 4, 0, 0}, {0, 0, 1, 0, 0, 0},
            {0, Integer.MAX_VALUE, 1, 0, 1, Beach.PLACE}, {0, 1, 1, 1, Integer.MAX_VALUE, Beach.PLACE},
            {0, 0, 1, Integer.MIN_VALUE, Integer.MIN_VALUE, Beach.PLACE}};
        for (int[] c : calls) {
            Check.due("shift " + c[0] + " " + c[1] + " " + c[2] + " " + c[3] + " " + c[4], c[5], x.shift(c[0], c[1], c[2], c[3], c[4]));
        }
        for (int i = 0; i < 6; i++) {
            x.put(0, i, i + 1);
        }
        Check.due("to another", 3, x.shift(0, 2, 1, 1, 3));
        tells(x, 1, 0, 3, 4, 5);
        tells(x, 0, 1, 2, 3, 4, 5, 6);
        Check.due("onwards in the same", 4, x.shift(0, 0, 0, 2, 4));
        tells(x, 0, 1, 2, 1, 2, 3, 4);
        Check.due("backwards in the same", 5, x.shift(0, 1, 0, 0, 5));
        tells(x, 0, 2, 1, 2, 3, 4, 4);
        Check.due("whole", 4, x.shift(1, 0, 0, 2, 4));
        tells(x, 0, 2, 1, 0, 3, 4, 5);
    }

    private static void tells(OpensLikeThat x, int shelf, int... due) {
        for (int i = 0; i < due.length; i++) {
            Check.due("element " + i + " of " + shelf, due[i], x.element(shelf, i));
        }
    }

    private static void taken() {
        OpensLikeThat x = new OpensLikeThat();
        Class<?>[] kinds = {Frame.class, Cloth.class, Bar.class, Notch.class, Stripe.class, Finger.class, Sand.class, Child.class};
        for (int kind = 0; kind < 8; kind++) {
            x.keep(0, x.body(kind));
            for (int k = 0; k < 8; k++) {
                int due = kinds[k].isAssignableFrom(kinds[kind]) ? kind : Beach.KIND;
                Check.due("kind " + kind + " taken for " + k, due, x.taken(0, k));
            }
        }
        Check.due("no kind", Beach.BAD, x.taken(0, -1));
        Check.due("no kind", Beach.BAD, x.taken(0, 8));
        Check.due("no shelf", Beach.BAD, x.taken(6, 0));
        Check.due("no shelf", Beach.BAD, x.taken(-1, 0));
        Check.due("nothing there", Beach.BARE, x.taken(1, 0));
        Check.due("BAD first", Beach.BAD, x.taken(1, 8));
        x.row(1, 0, 1);
        Check.due("a ROW", Beach.KIND, x.taken(1, 0));
    }

    private static void count() {
        OpensLikeThat x = new OpensLikeThat();
        x.move(1, 3);
        x.person(1, 1);
        x.person(1, 1);
        Beach.feed(x, "123");
        x.mend(0, 0, 0);
        x.mend(0, 1, 0);
        x.mend(0, 2, 0);
        x.mend(0, 3, 0);
        for (int i = 0; i < 5; i++) {
            x.body(7);
        }
        x.act(4, 3, 0);
        int[] due = {1, 2, 3, 4, 5, 14};
        for (int what = 0; what < 6; what++) {
            Check.due("count(" + what + ")", due[what], x.count(what));
        }
        Check.due("count(-1)", Beach.BAD, x.count(-1));
        Check.due("count(6)", Beach.BAD, x.count(6));
    }

    /** The sums of the document by hand, for x 5 and the number 1. */
    private static void actsByHand() {
        int[][] due = {{6, 12, 4, 12}, {9, 18, 4, 18}, {6, -12, 4, -12}, {6, -14, 12, -14},
            {9, 18, 4 - 6, 18 + 6}, {6, -14, 12, -14 ^ 5}, {12, 24, 4, 24}, {9, 18 + 3 - 6, 4 - 6, 18 + 3 - 6 + 6 - 1}};
        for (int kind = 0; kind < 8; kind++) {
            OpensLikeThat x = new OpensLikeThat();
            x.body(0);
            x.body(kind);
            for (int act = 0; act < 4; act++) {
                Check.due("kind " + kind + " act " + act, due[kind][act], x.act(1, act, 5));
            }
        }
        OpensLikeThat x = new OpensLikeThat();
        x.body(0);
        x.body(0);
        Check.due("it wraps", Integer.MIN_VALUE, x.act(1, 0, Integer.MAX_VALUE));
        Check.due("it wraps", 2, x.act(1, 1, Integer.MIN_VALUE));
        Check.due("it wraps", Integer.MIN_VALUE + 1, x.act(1, 2, Integer.MIN_VALUE));
    }

    /** "THE TRACE: numbers of the bodies that ran in the latest act(), as they began": 14 are the most that run. */
    private static void traceOfTheLatest() {
        OpensLikeThat x = new OpensLikeThat();
        Check.due("no act yet", Beach.BAD, x.trace(0));
        Check.due("none ran", 0, x.count(5));
        x.body(7);
        x.body(0);
        x.act(0, 3, 5);
        Check.due("14 ran", 14, x.count(5));
        Check.due("the first", 81, x.trace(0));
        Check.due("the last", 1, x.trace(13));
        for (int i : new int[] {-1, 14, 15, 23, 24, 25, Integer.MIN_VALUE, Integer.MAX_VALUE}) {
            Check.due("trace(" + i + ")", Beach.BAD, x.trace(i));
        }
        x.body(3);
        x.keep(0, 0);
        x.taken(0, 0);
        Check.due("what is no act leaves it", 80, x.trace(2));
        x.act(1, 0, 5);
        Check.due("the latest alone", 1, x.count(5));
        Check.due("the latest alone", 1, x.trace(0));
        Check.due("none of the one ahead", Beach.BAD, x.trace(1));
        Check.due("no such FRAME", 0, x.act(3, 0, 5));
        Check.due("no TRACE then", Beach.BAD, x.trace(0));
        Check.due("none ran", 0, x.count(5));
        x.act(2, 2, 5);
        Check.due("two ran", 2, x.count(5));
        Check.due("no such ACT", 0, x.act(2, 4, 5));
        Check.due("no TRACE then", Beach.BAD, x.trace(0));
    }

    /** "SHELVES 0 .. 5 each hold nothing (at first), a FRAME (a BODY), or a ROW". */
    private static void whatAShelfHolds() {
        OpensLikeThat x = new OpensLikeThat();
        x.body(5);
        for (int shelf = 0; shelf < 6; shelf++) {
            Check.due("nothing at first", Beach.BARE, x.put(shelf, 0, 0));
            Check.due("a FRAME", 1, x.keep(shelf, 0));
            Check.due("its KIND", 5, x.taken(shelf, 3));
            Check.due("no ROW", Beach.KIND, x.put(shelf, 0, 0));
            Check.due("no element", Long.MIN_VALUE, x.element(shelf, 0));
            Check.due("a ROW", 1, x.row(shelf, 3, 1));
            Check.due("it is 0", 0, x.element(shelf, 0));
            Check.due("no FRAME", Beach.KIND, x.taken(shelf, 0));
            Check.due("put", 1, x.put(shelf, 0, 100 + shelf));
        }
        for (int shelf = 0; shelf < 6; shelf++) {
            Check.due("each for itself", 100 + shelf, x.element(shelf, 0));
        }
        Check.due("nothing again", 1, x.keep(3, -1));
        Check.due("nothing is there", Beach.BARE, x.put(3, 0, 0));
        Check.due("nothing is there", Beach.BARE, x.taken(3, 0));
        Check.due("no element", Long.MIN_VALUE, x.element(3, 0));
        Check.due("nothing, twice", 1, x.keep(3, -1));
        Check.due("the one beside it", 102, x.element(2, 0));
        Check.due("the one beside it", 104, x.element(4, 0));
    }

    /** "of 0 .. 60 elements, 0 at first (false)". */
    private static void rowOfSixty() {
        for (int sort = 0; sort < 5; sort++) {
            OpensLikeThat x = new OpensLikeThat();
            x.row(5, sort, 60);
            for (int i = 0; i < 60; i++) {
                Check.due("0 at first", 0, x.element(5, i));
                Check.due("put", 1, x.put(5, i, sort < 4 ? i + 1 : i % 2));
            }
            for (int i = 0; i < 60; i++) {
                Check.due("element", sort < 4 ? i + 1 : i % 2, x.element(5, i));
            }
            Check.due("no place 60", Beach.PLACE, x.put(5, 60, 1));
            Check.due("no place 60", Long.MIN_VALUE, x.element(5, 60));
            Check.due("no place -1", Beach.PLACE, x.put(5, -1, 1));
            Check.due("again", 1, x.row(5, sort, 60));
            for (int i = 0; i < 60; i++) {
                Check.due("0 at first again", 0, x.element(5, i));
            }
            for (int n : new int[] {0, 1, 2, 59}) {
                Check.due("a ROW of " + n, 1, x.row(5, sort, n));
                Check.due("the first behind it", Beach.PLACE, x.put(5, n, 1));
                Check.due("the last of it", n == 0 ? Beach.PLACE : 1, x.put(5, n - 1, 1));
                Check.due("the last of it", n == 0 ? Long.MIN_VALUE : 1, x.element(5, n - 1));
            }
        }
    }

    /** "as they all were before: n", of 60 elements. */
    private static void shiftOfSixty() {
        OpensLikeThat x = new OpensLikeThat();
        x.row(0, 2, 60);
        x.row(5, 2, 60);
        for (int i = 0; i < 60; i++) {
            x.put(0, i, i + 1);
        }
        Check.due("all 60", 60, x.shift(0, 0, 5, 0, 60));
        Check.due("59 onwards", 59, x.shift(0, 0, 0, 1, 59));
        Check.due("59 backwards", 59, x.shift(5, 1, 5, 0, 59));
        for (int i = 0; i < 60; i++) {
            Check.due("onwards", Math.max(1, i), x.element(0, i));
            Check.due("backwards", Math.min(60, i + 2), x.element(5, i));
        }
        Check.due("none from the end to the end", 0, x.shift(0, 60, 5, 60, 0));
        Check.due("one from the end", Beach.PLACE, x.shift(0, 60, 5, 0, 1));
        Check.due("one to the end", Beach.PLACE, x.shift(0, 0, 5, 60, 1));
        Check.due("none from behind the end", Beach.PLACE, x.shift(0, 61, 5, 0, 0));
        Check.due("none to behind the end", Beach.PLACE, x.shift(0, 0, 5, 61, 0));
        Check.due("the last to the first", 1, x.shift(0, 59, 5, 0, 1));
        Check.due("the last to the first", 59, x.element(5, 0));
        Check.due("the first to the last", 1, x.shift(0, 0, 5, 59, 1));
        Check.due("the first to the last", 1, x.element(5, 59));
        Check.due("61", Beach.PLACE, x.shift(0, 0, 5, 0, 61));
        Check.due("all 60 from 1", Beach.PLACE, x.shift(0, 1, 5, 0, 60));
        Check.due("all 60 to 1", Beach.PLACE, x.shift(0, 0, 5, 1, 60));
        Check.due("places that wrap", Beach.PLACE, x.shift(0, Integer.MAX_VALUE, 5, 0, 2));
        Check.due("places that wrap", Beach.PLACE, x.shift(0, 0, 5, Integer.MAX_VALUE, 2));
        Check.due("below 0", Beach.PLACE, x.shift(0, 0, 5, 0, Integer.MIN_VALUE));
        Check.due("below 0", Beach.PLACE, x.shift(0, Integer.MIN_VALUE, 5, 0, 1));
    }

    private static void shiftOfEachSort() {
        long[] v = {-128, -32768, Integer.MIN_VALUE, Long.MIN_VALUE + 1, 1};
        for (int from = 0; from < 5; from++) {
            for (int to = 0; to < 5; to++) {
                OpensLikeThat x = new OpensLikeThat();
                x.row(0, from, 2);
                x.row(1, to, 3);
                x.put(0, 1, v[from]);
                Check.due("sort " + from + " to " + to, from == to ? 2 : Beach.KIND, x.shift(0, 0, 1, 1, 2));
                Check.due("what came", from == to ? v[from] : 0, x.element(1, 2));
                Check.due("it stays where it was", v[from], x.element(0, 1));
                Check.due("none of unlike sorts", from == to ? 0 : Beach.KIND, x.shift(0, 2, 1, 3, 0));
            }
        }
    }

    /** "What a SHELF holds, taken for a FRAME of KIND k (0 .. 7), or under it": 50 BODIES, the last of each KIND. */
    private static void takenOfFifty() {
        OpensLikeThat x = Beach.full();
        boolean[][] under = new boolean[8][8];
        int[] above = {-1, 0, 0, 2, 1, 3, 0, 4};
        for (int kind = 0; kind < 8; kind++) {
            for (int k = kind; k >= 0; k = above[k]) {
                under[kind][k] = true;
            }
        }
        for (int body = 42; body < 50; body++) {
            x.keep(5, body);
            for (int k = 0; k < 8; k++) {
                Check.due("body " + body + " for " + k, under[body % 8][k] ? body % 8 : Beach.KIND, x.taken(5, k));
            }
        }
        Check.due("no body 50", Beach.BAD, x.keep(5, 50));
        Check.due("the 50th stays", 1, x.taken(5, 1));
        for (int sort = 0; sort < 5; sort++) {
            x.row(5, sort, 8);
            for (int k = 0; k < 8; k++) {
                Check.due("a ROW", Beach.KIND, x.taken(5, k));
            }
        }
    }

    /** Nothing, and as many as there can be. */
    private static void countOfAll() {
        OpensLikeThat none = new OpensLikeThat();
        OpensLikeThat x = Beach.full();
        for (int i = 0; i < 120; i++) {
            x.feed(i);
        }
        for (int i = 0; i < 41; i++) {
            x.mend(5, 4, i + 1);
        }
        x.act(7, 3, 0);
        int[] due = {12, 6, 120, 40, 50, 14};
        for (int what = 0; what < 6; what++) {
            Check.due("none of " + what, 0, none.count(what));
            Check.due("all of " + what, due[what], x.count(what));
        }
        x.undo();
        Check.due("one UNDONE", 39, x.count(3));
        x.law();
        Check.due("THE TAPE is empty", 0, x.count(2));
        x.act(7, 4, 0);
        Check.due("no act", 0, x.count(5));
    }
}
