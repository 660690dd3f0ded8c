import java.util.ArrayList;
import java.util.List;

/** All that can be seen of an object, in parts. Some of it shows by calls that change it: so a look comes last. */
final class Look {
    static final int PARTS = 5;

    private Look() {
    }

    static List<Long> at(OpensLikeThat x, int part) {
        List<Long> seen = new ArrayList<>();
        switch (part) {
            case 0: numbers(x, seen); break;
            case 1: shelves(x, seen); break;
            case 2: changes(x, seen); break;
            case 3: image(x, seen); break;
            default: deeds(x, seen); break;
        }
        return seen;
    }

    private static void numbers(OpensLikeThat x, List<Long> seen) {
        for (int what = 0; what < 5; what++) {
            seen.add((long) x.count(what));
        }
        for (int number = 0; number < 12; number++) {
            for (int what : new int[] {0, 1, 2, 6, 7}) {
                seen.add((long) x.of(number, what));
            }
        }
        for (int number = 0; number < 6; number++) {
            for (int what = 3; what < 6; what++) {
                seen.add((long) x.of(number, what));
            }
        }
        led(x, seen);
        for (int move = 0; move < 12; move++) {
            for (int state : new int[] {0, 20, 53}) {
                seen.add((long) x.leads(move, state));
                seen.add((long) x.takes(move % 6, move, state));
            }
        }
    }

    private static void led(OpensLikeThat x, List<Long> seen) {
        seen.add((long) x.of(0, 8));
        for (int what = 0; what < 4; what++) {
            seen.add((long) x.led(what));
        }
    }

    private static void shelves(OpensLikeThat x, List<Long> seen) {
        seen.add((long) x.count(5));
        for (int i = 0; i < 25; i++) {
            seen.add((long) x.trace(i));
        }
        for (int shelf = 0; shelf < 6; shelf++) {
            seen.add((long) x.taken(shelf, 0));
            seen.add((long) x.judge(shelf, 0));
            for (int i = 0; i < 20; i++) {
                seen.add(x.element(shelf, i));
            }
            seen.add(x.element(shelf, 59));
            seen.add((long) x.put(shelf, 60, 0));
            seen.add((long) x.put(shelf, 1, 3000000000L));
            seen.add(x.element(shelf, 1));
        }
    }

    private static void changes(OpensLikeThat x, List<Long> seen) {
        for (int i = 0; i < 3; i++) {
            seen.add((long) x.redo());
        }
        for (int i = 0; i < 42; i++) {
            seen.add((long) x.undo());
            seen.add((long) x.of(i % 6, i % 7 % 6));
        }
        for (int number = 0; number < 6; number++) {
            for (int what = 0; what < 6; what++) {
                seen.add((long) x.of(number, what));
            }
        }
        for (int i = 0; i < 42; i++) {
            seen.add((long) x.redo());
            seen.add((long) x.of(i % 6, i % 7 % 6));
        }
    }

    private static void image(OpensLikeThat x, List<Long> seen) {
        seen.add((long) x.back());
        led(x, seen);
        seen.add((long) x.law());
        deeds(x, seen);
    }

    /** How often each was done shows by who KNOWS a MOVE then, and with how many more. */
    private static void deeds(OpensLikeThat x, List<Long> seen) {
        for (int one = 0; one < 6; one++) {
            seen.add((long) x.of(one, 4));
            seen.add((long) x.mend(one, 5, 2));
            for (int i = 0; i < 10; i++) {
                seen.add((long) x.make(one, i < 5 ? i : 9 - i));
                seen.add((long) x.of(one, 4));
            }
        }
        led(x, seen);
    }
}
