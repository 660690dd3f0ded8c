/** Short ways to set an object up. */
final class Beach {
    static final int BAD = -1, NOT = -2, FULL = -3, STATE = -5;
    static final int BARE = -11, KIND = -12, PLACE = -13, SIZE = -14;

    private Beach() {
    }

    static void bytes(OpensLikeThat x, int shelf, int... values) {
        Check.due("row", 1, x.row(shelf, 0, values.length));
        for (int i = 0; i < values.length; i++) {
            Check.due("put", 1, x.put(shelf, i, values[i]));
        }
    }

    static void feed(OpensLikeThat x, String text) {
        for (int i = 0; i < text.length(); i++) {
            x.feed(text.charAt(i));
        }
    }

    static int law(OpensLikeThat x, String text) {
        feed(x, text);
        return x.law();
    }

    /** FOLD, CLOTH, NOTCH and SIDE, each by 1 from any: all 54 STATES hang together. */
    static OpensLikeThat wheels() {
        OpensLikeThat x = new OpensLikeThat();
        x.move(1, 3);
        x.move(11, 3);
        x.move(21, 3);
        x.move(31, 3);
        return x;
    }
}
