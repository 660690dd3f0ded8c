/** Promises 37 to 46: FRAMES and their acts, shelves, counts. */
public final class ShelvesTest {
    public static void main(String[] args) {
        body();
        actsOfEachKind();
        traces();
        noAct();
        keep();
        rows();
        putCuts();
        refusals();
        shift();
        taken();
        count();
        Check.end();
    }

    private static void body() {
        OpensLikeThat x = new OpensLikeThat();
        Check.due("body(-1)", Beach.BAD, x.body(-1));
        Check.due("body(8)", Beach.BAD, x.body(8));
        for (int i = 0; i < 50; i++) {
            Check.due("body", i, x.body(i % 8));
        }
        Check.due("one too many", Beach.FULL, x.body(0));
        Check.due("BAD ahead of FULL", Beach.BAD, x.body(8));
        Check.due("count", 50, x.count(4));
    }

    // The same acts by Java's own inheritance, as the document writes them.
    private interface Lies {
        int n();

        default int lies(int x) {
            return x + n();
        }
    }

    private interface Tells {
        int folds(int x);

        int turns(int x);

        default int tells(int x) {
            return folds(x) - turns(1);
        }
    }

    private static class Frame implements Lies, Tells {
        int n;

        public int n() {
            return n;
        }

        public int folds(int x) {
            return lies(x) * 2;
        }

        public int turns(int x) {
            return x ^ n;
        }
    }

    private static class Cloth extends Frame {
        public int lies(int x) {
            return super.lies(x) + 3;
        }
    }

    private static class Bar extends Frame {
        public int folds(int x) {
            return -super.folds(x);
        }
    }

    private static class Notch extends Bar {
        public int turns(int x) {
            return super.turns(x) * 3;
        }

        public int folds(int x) {
            return super.folds(x + 1);
        }
    }

    private static class Stripe extends Cloth {
        public int turns(int x) {
            return super.turns(x) - lies(2);
        }
    }

    private static class Finger extends Notch {
        public int tells(int x) {
            return super.tells(x) ^ 5;
        }
    }

    private static class Sand extends Frame {
        public int lies(int x) {
            return super.lies(x) * 2;
        }
    }

    private static class Child extends Stripe {
        public int folds(int x) {
            return super.folds(x) + turns(2);
        }

        public int tells(int x) {
            return super.tells(x) - 1;
        }
    }

    private static int dueOf(Frame f, int act, int x) {
        switch (act) {
            case 0: return f.lies(x);
            case 1: return f.folds(x);
            case 2: return f.turns(x);
            default: return f.tells(x);
        }
    }

    private static void actsOfEachKind() {
        OpensLikeThat x = new OpensLikeThat();
        int[] xs = {0, 1, -1, 7, 1000, Integer.MAX_VALUE, Integer.MIN_VALUE, 0x55555555};
        for (int n = 0; n < 50; n++) {
            int kind = (n * 3 + n / 8) % 8;
            x.body(kind);
            Frame[] kinds = {new Frame(), new Cloth(), new Bar(), new Notch(), new Stripe(), new Finger(), new Sand(), new Child()};
            kinds[kind].n = n;
            for (int act = 0; act < 4; act++) {
                for (int v : xs) {
                    Check.due("kind " + kind + " act " + act + " x " + v, dueOf(kinds[kind], act, v), x.act(n, act, v));
                }
            }
        }
    }

    private static void traced(int kind, int act, int... due) {
        OpensLikeThat x = new OpensLikeThat();
        x.body(0);
        x.body(kind);
        x.act(0, 3, 9);
        x.act(1, act, 5);
        Check.due("ran, kind " + kind + " act " + act, due.length, x.count(5));
        for (int i = 0; i < due.length; i++) {
            Check.due("trace(" + i + "), kind " + kind + " act " + act, due[i], x.trace(i));
        }
        Check.due("behind the trace", Beach.BAD, x.trace(due.length));
        Check.due("ahead of the trace", Beach.BAD, x.trace(-1));
    }

    private static void traces() {
        traced(0, 0, 1);
        traced(0, 1, 10, 1);
        traced(0, 2, 11);
        traced(0, 3, 2, 10, 1, 11);
        traced(1, 0, 20, 1);
        traced(1, 1, 10, 20, 1);
        traced(2, 1, 30, 10, 1);
        traced(3, 1, 41, 30, 10, 1);
        traced(3, 2, 40, 11);
        traced(3, 3, 2, 41, 30, 10, 1, 40, 11);
        traced(4, 2, 50, 11, 20, 1);
        traced(4, 3, 2, 10, 20, 1, 50, 11, 20, 1);
        traced(5, 3, 60, 2, 41, 30, 10, 1, 40, 11);
        traced(6, 0, 70, 1);
        traced(6, 3, 2, 10, 70, 1, 11);
        traced(7, 0, 20, 1);
        traced(7, 1, 80, 10, 20, 1, 50, 11, 20, 1);
        traced(7, 3, 81, 2, 80, 10, 20, 1, 50, 11, 20, 1, 50, 11, 20, 1);
    }

    private static void noAct() {
        int[][] wrong = {{-1, 0}, {2, 0}, {50, 0}, {0, -1}, {0, 4}, {Integer.MIN_VALUE, Integer.MAX_VALUE}};
        for (int[] w : wrong) {
            OpensLikeThat x = new OpensLikeThat();
            x.body(7);
            x.body(0);
            Check.due("an act", 12, x.act(1, 1, 5));
            Check.due("no act", 0, x.act(w[0], w[1], 5));
            Check.due("no trace then", Beach.BAD, x.trace(0));
            Check.due("none ran", 0, x.count(5));
        }
    }

    private static void keep() {
        OpensLikeThat x = new OpensLikeThat();
        Check.due("no body", Beach.BAD, x.keep(0, 0));
        x.body(3);
        Check.due("keep", 1, x.keep(0, 0));
        Check.due("its kind", 3, x.taken(0, 0));
        Check.due("nothing", 1, x.keep(0, -1));
        Check.due("nothing is there", Beach.BARE, x.taken(0, 0));
        Check.due("no such body", Beach.BAD, x.keep(0, -2));
        Check.due("no such body", Beach.BAD, x.keep(0, 1));
        Check.due("no such shelf", Beach.BAD, x.keep(6, 0));
        Check.due("no such shelf", Beach.BAD, x.keep(-1, -1));
        x.row(5, 0, 3);
        Check.due("instead of a ROW", 1, x.keep(5, 0));
        Check.due("no ROW", Beach.KIND, x.put(5, 0, 1));
        Check.due("a ROW instead", 1, x.row(5, 3, 1));
        Check.due("no FRAME", Beach.KIND, x.taken(5, 0));
    }

    private static void rows() {
        OpensLikeThat x = new OpensLikeThat();
        Check.due("no shelf", Beach.BAD, x.row(6, 0, 1));
        Check.due("no shelf", Beach.BAD, x.row(-1, 0, 1));
        Check.due("no sort", Beach.BAD, x.row(0, 5, 1));
        Check.due("no sort", Beach.BAD, x.row(0, -1, 1));
        Check.due("too long", Beach.BAD, x.row(0, 0, 61));
        Check.due("below 0", Beach.SIZE, x.row(0, 0, -1));
        Check.due("BAD ahead of -14", Beach.BAD, x.row(0, 5, -1));
        Check.due("BAD ahead of -14", Beach.BAD, x.row(6, 0, -1));
        Check.due("nothing came", Beach.BARE, x.put(0, 0, 0));
        for (int sort = 0; sort < 5; sort++) {
            Check.due("row", 1, x.row(sort, sort, 60));
            for (int i = 0; i < 60; i++) {
                Check.due("0 at first", 0, x.element(sort, i));
                x.put(sort, i, 1);
            }
            Check.due("again", 1, x.row(sort, sort, 60));
            for (int i = 0; i < 60; i++) {
                Check.due("0 at first again", 0, x.element(sort, i));
            }
        }
        Check.due("an empty one", 1, x.row(0, 0, 0));
        Check.due("no place in it", Beach.PLACE, x.put(0, 0, 0));
    }

    private static void putCuts() {
        OpensLikeThat x = new OpensLikeThat();
        long[] vs = {0, 1, -1, 127, 128, -129, 255, 256, 32767, 32768, 65536, 0x7fffffffL, 0x80000000L,
            0x100000000L, Long.MAX_VALUE, Long.MIN_VALUE, 0x123456789abcdef0L};
        for (int sort = 0; sort < 5; sort++) {
            x.row(0, sort, 3);
            for (long v : vs) {
                long[] due = {(byte) v, (short) v, (int) v, v, v != 0 ? 1 : 0};
                Check.due("put", 1, x.put(0, 1, v));
                Check.due("element of " + v, due[sort], x.element(0, 1));
                Check.due("the one ahead", 0, x.element(0, 0));
                Check.due("the one behind", 0, x.element(0, 2));
            }
        }
    }

    private static void refusals() {
        OpensLikeThat x = new OpensLikeThat();
        x.body(0);
        x.keep(1, 0);
        x.row(2, 4, 3);
        int[][] calls = {{-1, 0, Beach.BAD}, {6, 0, Beach.BAD}, {0, -1, Beach.BARE}, {1, -1, Beach.KIND},
            {2, -1, Beach.PLACE}, {2, 3, Beach.PLACE}, {2, Integer.MAX_VALUE, Beach.PLACE}, {2, Integer.MIN_VALUE, Beach.PLACE}};
        for (int[] c : calls) {
            Check.due("put " + c[0] + " " + c[1], c[2], x.put(c[0], c[1], 5));
            Check.due("element " + c[0] + " " + c[1], Long.MIN_VALUE, x.element(c[0], c[1]));
        }
        Check.due("put", 1, x.put(2, 2, 5));
        Check.due("element", 1, x.element(2, 2));
    }

    private static void shift() {
        OpensLikeThat x = new OpensLikeThat();
        x.body(0);
        x.row(0, 0, 6);
        x.row(1, 0, 4);
        x.row(2, 1, 6);
        x.keep(3, 0);
        int[][] calls = {{-1, 0, 0, 0, 1, Beach.BAD}, {0, 0, 6, 0, 1, Beach.BAD}, {4, 0, 0, 0, 1, Beach.BARE},
            {0, 0, 4, 0, 1, Beach.BARE}, {3, 0, 4, 0, 1, Beach.BARE}, {3, 0, 0, 0, 1, Beach.KIND}, {0, 0, 3, 0, 1, Beach.KIND},
            {3, 0, 3, 0, 0, Beach.KIND}, {0, 0, 2, 0, 1, Beach.KIND}, {0, -1, 2, 0, 0, Beach.KIND}, {0, -1, 1, 0, 1, Beach.PLACE},
            {0, 0, 1, -1, 1, Beach.PLACE}, {0, 0, 1, 0, -1, Beach.PLACE}, {0, 0, 1, 0, 5, Beach.PLACE}, {0, 4, 1, 0, 3, Beach.PLACE},
            {0, 0, 1, 3, 2, Beach.PLACE}, {0, 7, 1, 0, 0, Beach.PLACE}, {0, 6, 1, 4, 0, 0}, {0, 0, 1, 0, 0, 0},
            {0, Integer.MAX_VALUE, 1, 0, 1, Beach.PLACE}, {0, 1, 1, 1, Integer.MAX_VALUE, Beach.PLACE},
            {0, 0, 1, Integer.MIN_VALUE, Integer.MIN_VALUE, Beach.PLACE}};
        for (int[] c : calls) {
            Check.due("shift " + c[0] + " " + c[1] + " " + c[2] + " " + c[3] + " " + c[4], c[5], x.shift(c[0], c[1], c[2], c[3], c[4]));
        }
        for (int i = 0; i < 6; i++) {
            x.put(0, i, i + 1);
        }
        Check.due("to another", 3, x.shift(0, 2, 1, 1, 3));
        tells(x, 1, 0, 3, 4, 5);
        tells(x, 0, 1, 2, 3, 4, 5, 6);
        Check.due("onwards in the same", 4, x.shift(0, 0, 0, 2, 4));
        tells(x, 0, 1, 2, 1, 2, 3, 4);
        Check.due("backwards in the same", 5, x.shift(0, 1, 0, 0, 5));
        tells(x, 0, 2, 1, 2, 3, 4, 4);
        Check.due("whole", 4, x.shift(1, 0, 0, 2, 4));
        tells(x, 0, 2, 1, 0, 3, 4, 5);
    }

    private static void tells(OpensLikeThat x, int shelf, int... due) {
        for (int i = 0; i < due.length; i++) {
            Check.due("element " + i + " of " + shelf, due[i], x.element(shelf, i));
        }
    }

    private static void taken() {
        OpensLikeThat x = new OpensLikeThat();
        Class<?>[] kinds = {Frame.class, Cloth.class, Bar.class, Notch.class, Stripe.class, Finger.class, Sand.class, Child.class};
        for (int kind = 0; kind < 8; kind++) {
            x.keep(0, x.body(kind));
            for (int k = 0; k < 8; k++) {
                int due = kinds[k].isAssignableFrom(kinds[kind]) ? kind : Beach.KIND;
                Check.due("kind " + kind + " taken for " + k, due, x.taken(0, k));
            }
        }
        Check.due("no kind", Beach.BAD, x.taken(0, -1));
        Check.due("no kind", Beach.BAD, x.taken(0, 8));
        Check.due("no shelf", Beach.BAD, x.taken(6, 0));
        Check.due("no shelf", Beach.BAD, x.taken(-1, 0));
        Check.due("nothing there", Beach.BARE, x.taken(1, 0));
        Check.due("BAD first", Beach.BAD, x.taken(1, 8));
        x.row(1, 0, 1);
        Check.due("a ROW", Beach.KIND, x.taken(1, 0));
    }

    private static void count() {
        OpensLikeThat x = new OpensLikeThat();
        x.move(1, 3);
        x.person(1, 1);
        x.person(1, 1);
        Beach.feed(x, "123");
        x.mend(0, 0, 0);
        x.mend(0, 1, 0);
        x.mend(0, 2, 0);
        x.mend(0, 3, 0);
        for (int i = 0; i < 5; i++) {
            x.body(7);
        }
        x.act(4, 3, 0);
        int[] due = {1, 2, 3, 4, 5, 14};
        for (int what = 0; what < 6; what++) {
            Check.due("count(" + what + ")", due[what], x.count(what));
        }
        Check.due("count(-1)", Beach.BAD, x.count(-1));
        Check.due("count(6)", Beach.BAD, x.count(6));
    }
}
