/** Short ways to set an object up. */
final class Beach {
    static final int BAD = -1, NOT = -2, FULL = -3, STATE = -5;
    static final int BARE = -11, KIND = -12, PLACE = -13, SIZE = -14;
    static final int LEAST = Integer.MIN_VALUE, MOST = Integer.MAX_VALUE;

    private Beach() {
    }

    static void bytes(OpensLikeThat x, int shelf, int... values) {
        Check.due("row", 1, x.row(shelf, 0, values.length));
        for (int i = 0; i < values.length; i++) {
            Check.due("put", 1, x.put(shelf, i, values[i]));
        }
    }

    static int[] times(int n, int value) {
        int[] row = new int[n];
        java.util.Arrays.fill(row, value);
        return row;
    }

    static void feed(OpensLikeThat x, String text) {
        for (int i = 0; i < text.length(); i++) {
            x.feed(text.charAt(i));
        }
    }

    static int law(OpensLikeThat x, String text) {
        feed(x, text);
        return x.law();
    }

    /** MOVES by fives, as MOVES FROM A ROW tells them. */
    static void moves(OpensLikeThat x, int... fives) {
        bytes(x, 0, fives);
        Check.due("moves", fives.length / 5, x.moves(0, 0, 12));
    }

    static void people(OpensLikeThat x, int n) {
        for (int i = 0; i < n; i++) {
            Check.due("person", x.count(1), x.person(0, 1));
        }
    }

    /** FOLD, CLOTH, NOTCH and SIDE, each by 1 from any: all 54 STATES hang together. */
    static OpensLikeThat wheels() {
        OpensLikeThat x = new OpensLikeThat();
        x.move(1, 3);
        x.move(11, 3);
        x.move(21, 3);
        x.move(31, 3);
        return x;
    }

    /** 12 MOVES of which none leads anywhere. */
    static OpensLikeThat twelveThatStay() {
        OpensLikeThat x = new OpensLikeThat();
        for (int i = 0; i < 12; i++) {
            Check.due("move", i, x.move(32, 3));
        }
        return x;
    }

    /** 12 MOVES, 6 PEOPLE, 50 BODIES, and on each SHELF a ROW of 60 bytes. */
    static OpensLikeThat full() {
        OpensLikeThat x = new OpensLikeThat();
        int[] wb = {1, 11, 21, 31, 2, 12, 22, 32, 1, 11, 21, 31};
        for (int i = 0; i < 12; i++) {
            x.move(wb[i], 3);
        }
        people(x, 6);
        for (int i = 0; i < 50; i++) {
            x.body(i % 8);
        }
        for (int shelf = 0; shelf < 6; shelf++) {
            x.row(shelf, 0, 60);
        }
        return x;
    }
}
