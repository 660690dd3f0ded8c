import java.util.ArrayList;
import java.util.List;
import java.util.Random;

/** Deeds, AN IMAGE, CHANGES undone and done again, by lot against a model that keeps them in lists. */
public final class StoryTest {
    private static final int MOVES = 5;

    private final Random random;
    private final OpensLikeThat x = Beach.wheels();
    private final List<int[]> changes = new ArrayList<>();
    private int stand = 0;
    private int people = 0;
    private int[][] numbers = new int[6][6];
    private int[][] done = new int[6][MOVES];
    private int state = 0;
    private int[] led = new int[4];
    private int[][] imageDone;
    private int[] imageKnows;
    private int[] imageLed;
    private int imageState;

    private StoryTest(long seed) {
        random = new Random(seed);
        x.move(2, 0);
        for (int m = 0; m < 6; m++) {
            numbers[m][0] = m == 4 ? 0 : 3;
            numbers[m][1] = 3;
            numbers[m][2] = 1;
        }
    }

    public static void main(String[] args) {
        for (int run = 0; run < 300; run++) {
            StoryTest t = new StoryTest(run);
            for (int i = 0; i < 200; i++) {
                t.call();
            }
            t.look();
        }
        Check.end();
    }

    private void call() {
        switch (random.nextInt(12)) {
            case 0: person(); break;
            case 1: lay(random.nextInt(56) - 1); break;
            case 2: image(); break;
            case 3: back(); break;
            case 4: case 5: undo(); break;
            case 6: redo(); break;
            case 7: case 8: mend(random.nextInt(6), random.nextInt(6), random.nextInt(11)); break;
            default: make(random.nextInt(Math.max(1, people + 1)), random.nextInt(6)); break;
        }
    }

    private void person() {
        int deft = random.nextInt(10);
        int learns = 1 + random.nextInt(4);
        Check.due("person", people < 6 ? people : Beach.FULL, x.person(deft, learns));
        if (people < 6) {
            numbers[people][3] = deft;
            numbers[people][5] = learns;
            people++;
        }
    }

    private void mend(int number, int what, int v) {
        boolean there = what < 3 ? number < MOVES : number < people;
        int most = what < 2 ? 3 : what == 4 ? 4095 : 9;
        boolean fits = v <= most && v >= (what == 5 ? 1 : 0) && !(what == 0 && number == 3 && v == 2);
        int was = numbers[number][what];
        Check.due("mend(" + number + ", " + what + ", " + v + ")", there && fits ? was : Beach.BAD, x.mend(number, what, v));
        if (there && fits && was != v) {
            while (changes.size() > stand) {
                changes.remove(stand);
            }
            changes.add(new int[] {number, what, was, v});
            if (changes.size() > 40) {
                changes.remove(0);
            }
            stand = changes.size();
            numbers[number][what] = v;
        }
    }

    private void undo() {
        Check.due("undo", stand == 0 ? Beach.STATE : stand - 1, x.undo());
        if (stand > 0) {
            stand--;
            int[] c = changes.get(stand);
            numbers[c[0]][c[1]] = c[2];
        }
    }

    private void redo() {
        int more = changes.size() - stand;
        Check.due("redo", more == 0 ? Beach.STATE : more - 1, x.redo());
        if (more > 0) {
            int[] c = changes.get(stand);
            numbers[c[0]][c[1]] = c[3];
            stand++;
        }
    }

    private void make(int one, int move) {
        if (one >= people || move >= MOVES) {
            Check.due("make(" + one + ", " + move + ")", Beach.BAD, x.make(one, move));
            return;
        }
        int what = move % 4;
        int by = move == 4 ? 2 : 1;
        int[] weight = {18, 6, 2, 1};
        int round = what == 3 ? 2 : 3;
        int part = state / weight[what] % round;
        int[] m = numbers[move];
        boolean may = (m[0] == 3 || m[0] == part) && (m[1] == 3 || m[1] == state / 18);
        int to = state + weight[what] * ((part + by) % round - part);
        Check.due("make(" + one + ", " + move + ") in " + state, may ? to : Beach.NOT, x.make(one, move));
        if (may) {
            int k = numbers[one][4] >> move & 1;
            led[0]++;
            led[1] += Math.max(1, (1 + m[2]) * (2 - k) - numbers[one][3] / 3);
            led[2] += isChair(to) && !isChair(state) ? 1 : 0;
            done[one][move]++;
            numbers[one][4] |= done[one][move] >= numbers[one][5] ? 1 << move : 0;
            state = to;
        }
    }

    private static boolean isChair(int s) {
        return s == 36 || s == 38 || s == 40;
    }

    private void lay(int to) {
        boolean said = to >= 0 && to < 54;
        Check.due("lay(" + to + ")", said ? state : Beach.BAD, x.lay(to));
        if (said) {
            state = to;
            led[3]++;
        }
    }

    private void image() {
        Check.due("image", led[0], x.image());
        imageLed = led.clone();
        imageState = state;
        imageKnows = new int[6];
        imageDone = new int[6][];
        for (int one = 0; one < 6; one++) {
            imageKnows[one] = one < people ? numbers[one][4] : 0;
            imageDone[one] = done[one].clone();
        }
    }

    private void back() {
        Check.due("back", imageLed == null ? Beach.STATE : imageLed[0], x.back());
        if (imageLed != null) {
            led = imageLed.clone();
            state = imageState;
            for (int one = 0; one < 6; one++) {
                numbers[one][4] = imageKnows[one];
                done[one] = imageDone[one].clone();
            }
        }
    }

    private void look() {
        Check.due("count(3)", stand, x.count(3));
        Check.due("of(0, 8)", state, x.of(0, 8));
        for (int what = 0; what < 4; what++) {
            Check.due("led(" + what + ")", led[what], x.led(what));
        }
        for (int number = 0; number < 6; number++) {
            for (int what = 0; what < 6; what++) {
                boolean there = what < 3 ? number < MOVES : number < people;
                Check.due("of(" + number + ", " + what + ")", there ? numbers[number][what] : Beach.BAD, x.of(number, what));
            }
        }
    }
}
