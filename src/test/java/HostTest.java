import java.util.Random;

/** SHELVES by lot against Java's own arrays and classes: the host's REFUSALS are what Java throws. */
public final class HostTest {
    private static final int[] PLACES = {Integer.MIN_VALUE, -1, 0, 1, 2, 3, 4, 5, 58, 59, 60, 61, Integer.MAX_VALUE};

    private interface Deed {
        long done();
    }

    private static class Frame { }

    private static class Cloth extends Frame { }

    private static class Bar extends Frame { }

    private static class Notch extends Bar { }

    private static class Stripe extends Cloth { }

    private static class Finger extends Notch { }

    private static class Sand extends Frame { }

    private static class Child extends Stripe { }

    private static final Frame[] FRAMES = {new Frame(), new Cloth(), new Bar(), new Notch(), new Stripe(), new Finger(),
        new Sand(), new Child()};

    private final Random random;
    private final OpensLikeThat x = new OpensLikeThat();
    private final Object[] shelves = new Object[6];

    private HostTest(long seed) {
        random = new Random(seed);
        for (int kind = 0; kind < 8; kind++) {
            x.body(kind);
        }
    }

    public static void main(String[] args) {
        for (int run = 0; run < 400; run++) {
            HostTest t = new HostTest(run);
            for (int i = 0; i < 380; i++) {
                t.call();
            }
            t.allElements();
        }
        Check.end();
    }

    private int shelf() {
        return random.nextInt(40) == 0 ? random.nextInt(2) * 7 - 1 : random.nextInt(6);
    }

    private int place() {
        return random.nextInt(3) == 0 ? PLACES[random.nextInt(PLACES.length)] : random.nextInt(8);
    }

    private void call() {
        int s = shelf();
        int i = place();
        switch (random.nextInt(8)) {
            case 0: row(s, random.nextInt(30) == 0 ? 5 : random.nextInt(5), random.nextInt(4) == 0 ? i : random.nextInt(12)); break;
            case 1: keep(s, random.nextInt(10) - 1); break;
            case 2: case 3: put(s, i, random.nextLong() >> random.nextInt(64)); break;
            case 4: element(s, i); break;
            case 5: taken(s, random.nextInt(10) - 1); break;
            default: shift(s, i, random.nextInt(3) == 0 ? s : shelf(), place(), random.nextInt(9) == 0 ? place() : random.nextInt(5)); break;
        }
    }

    private static boolean isShelf(int s) {
        return s >= 0 && s < 6;
    }

    /** BAD ahead of what Java throws. */
    private static long by(boolean said, Deed deed) {
        if (!said) {
            return Beach.BAD;
        }
        try {
            return deed.done();
        } catch (NullPointerException e) {
            return Beach.BARE;
        } catch (ClassCastException | ArrayStoreException e) {
            return Beach.KIND;
        } catch (IndexOutOfBoundsException e) {
            return Beach.PLACE;
        } catch (NegativeArraySizeException e) {
            return Beach.SIZE;
        }
    }

    private void row(int s, int sort, int n) {
        long due = by(isShelf(s) && sort < 5 && n <= 60, () -> {
            shelves[s] = switch (sort) {
                case 0 -> new byte[n];
                case 1 -> new short[n];
                case 2 -> new int[n];
                case 3 -> new long[n];
                default -> new boolean[n];
            };
            return 1;
        });
        Check.due("row(" + s + ", " + sort + ", " + n + ")", due, x.row(s, sort, n));
    }

    private void keep(int s, int body) {
        long due = by(isShelf(s) && body >= -1 && body < 8, () -> {
            shelves[s] = body < 0 ? null : FRAMES[body];
            return 1;
        });
        Check.due("keep(" + s + ", " + body + ")", due, x.keep(s, body));
    }

    private void put(int s, int i, long v) {
        long due = by(isShelf(s), () -> {
            Object row = shelves[s];
            if (row instanceof byte[] b) {
                b[i] = (byte) v;
            } else if (row instanceof short[] b) {
                b[i] = (short) v;
            } else if (row instanceof int[] b) {
                b[i] = (int) v;
            } else if (row instanceof long[] b) {
                b[i] = v;
            } else {
                ((boolean[]) row)[i] = v != 0;
            }
            return 1;
        });
        Check.due("put(" + s + ", " + i + ", " + v + ")", due, x.put(s, i, v));
    }

    private void element(int s, int i) {
        long[] told = {Long.MIN_VALUE};
        long due = by(isShelf(s), () -> {
            Object row = shelves[s];
            if (row instanceof byte[] b) {
                told[0] = b[i];
            } else if (row instanceof short[] b) {
                told[0] = b[i];
            } else if (row instanceof int[] b) {
                told[0] = b[i];
            } else if (row instanceof long[] b) {
                told[0] = b[i];
            } else {
                told[0] = ((boolean[]) row)[i] ? 1 : 0;
            }
            return 1;
        });
        Check.due("element(" + s + ", " + i + ")", due == 1 ? told[0] : Long.MIN_VALUE, x.element(s, i));
    }

    private void shift(int s, int i, int other, int j, int n) {
        long due = by(isShelf(s) && isShelf(other), () -> {
            System.arraycopy(shelves[s], i, shelves[other], j, n);
            return n;
        });
        Check.due("shift(" + s + ", " + i + ", " + other + ", " + j + ", " + n + ")", due, x.shift(s, i, other, j, n));
    }

    private void taken(int s, int k) {
        long due = by(isShelf(s) && k >= 0 && k < 8, () -> {
            Frame f = FRAMES[k].getClass().cast(shelves[s]);
            int kind = 0;
            while (FRAMES[kind].getClass() != f.getClass()) {
                kind++;
            }
            return kind;
        });
        Check.due("taken(" + s + ", " + k + ")", due, x.taken(s, k));
    }

    private void allElements() {
        for (int s = 0; s < 6; s++) {
            for (int i = 0; i < 19; i++) {
                element(s, i);
            }
        }
    }
}
