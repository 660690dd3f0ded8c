/** Promises 25 to 29: chairs found, and drawn. */
public final class FoundTest {
    public static void main(String[] args) {
        judgeAndEnds();
        foundOfSixty();
        who();
        whoOfSix();
        begun();
        begunFromOne();
        drawn();
        drawnAsTold();
        Check.end();
    }

    private static void judgeAndEnds() {
        OpensLikeThat x = Beach.wheels();
        x.mend(1, 1, 2);
        Beach.bytes(x, 0, 0, 0, 1, 0, 1, 2);
        Check.due("the CLOTH of a SHUT one", 4, x.judge(0, 0));
        Check.due("the STATE ahead of it", 6, x.ends(0, 0));
        Check.due("at once", 2, x.judge(0, 18));
        Check.due("at once", 0, x.ends(0, 18));
        Beach.bytes(x, 0, 0, 0, 1, 2);
        Check.due("all", Beach.NOT, x.judge(0, 0));
        Check.due("all", 36 + 6 + 2, x.ends(0, 0));
        Beach.bytes(x, 0, 0, 4, 0);
        Check.due("none such", 1, x.judge(0, 0));
        Check.due("none such", 18, x.ends(0, 0));
        Beach.bytes(x, 0, -1, 0);
        Check.due("none such", 0, x.judge(0, 0));
        Check.due("none such", 5, x.ends(0, 5));
        Beach.bytes(x, 0);
        Check.due("nothing made", Beach.NOT, x.judge(0, 53));
        Check.due("nothing made", 53, x.ends(0, 53));
    }

    private static void who() {
        OpensLikeThat x = Beach.wheels();
        Beach.bytes(x, 0, 0, 1);
        Check.due("no PEOPLE", 0, x.who(0, 0));
        x.person(0, 1);
        x.person(5, 1);
        x.person(9, 1);
        Check.due("all three", 7, x.who(0, 0));
        Beach.law(x, "d-m*5");
        Check.due("of the first MOVE 1 and 2, of the second 2", 4, x.who(0, 0));
        Beach.bytes(x, 0, 0);
        Check.due("two", 6, x.who(0, 0));
        Beach.bytes(x, 0);
        Check.due("nothing to make", 7, x.who(0, 0));
        Beach.bytes(x, 0, 0, 4);
        Check.due("none such", 0, x.who(0, 0));
        x.mend(0, 0, 0);
        Beach.bytes(x, 0, 0, 0);
        Check.due("it MAY not be", 0, x.who(0, 0));
        Beach.law(x, "f=1?0;2");
        x.mend(0, 0, 3);
        Check.due("none on the way", 0, x.who(0, 0));
        Check.due("all from behind it", 7, x.who(0, 36));
    }

    private static void begun() {
        OpensLikeThat x = Beach.wheels();
        Beach.bytes(x, 0, 0, 2);
        Check.due("one", 1, x.begun(0, 20, 0));
        Check.due("one", 0, x.begun(0, 20, 1));
        x.move(32, 3);
        x.mend(0, 0, 0);
        Check.due("FOLD from 0 alone", 0, x.begun(0, 36, 0));
        Check.due("FOLD from 0 alone", Beach.NOT, x.begun(0, 36, 1));
        Beach.bytes(x, 0, 4);
        Check.due("it stays", 9, x.begun(0, 9, 1));
        Beach.bytes(x, 0);
        Check.due("it stays", 1, x.begun(0, 53, 0));
        Check.due("it stays", 53, x.begun(0, 53, 1));
        Beach.bytes(x, 0, 0, 9);
        Check.due("none such", 0, x.begun(0, 18, 0));
        Check.due("no such what", Beach.BAD, x.begun(0, 0, 2));
        Check.due("no such what", Beach.BAD, x.begun(0, 0, -1));
    }

    private static void drawn() {
        OpensLikeThat x = new OpensLikeThat();
        Check.due("it stays", 0, x.drawn(0, 7, 5060, 0));
        Check.due("it stays a CHAIR", 50, x.drawn(36, 7, 5060, 0));
        Check.due("a CHAIR at first", 50, x.drawn(36, 7, 5060, 1));
        x.move(1, 3);
        Check.due("FOLD twice", 3, x.drawn(0, 7, 302, 0));
        Check.due("FOLD three times", 0, x.drawn(0, 7, 303, 0));
        Check.due("it was one", 3, x.drawn(0, 7, 303, 1));
        Check.due("it was one at first", 3, x.drawn(36, 7, 301, 1));
        Check.due("it is one no more", 0, x.drawn(36, 7, 301, 0));
        int[] wrong = {0, 100, 60, 161, 5101, 99, 199, -101, Integer.MIN_VALUE, Integer.MAX_VALUE};
        for (int nm : wrong) {
            Check.due("drawn nm " + nm, Beach.BAD, x.drawn(0, 7, nm, 0));
        }
        Check.due("no STATE", Beach.BAD, x.drawn(54, 7, 101, 0));
        Check.due("no STATE", Beach.BAD, x.drawn(-1, 7, 101, 0));
        Check.due("no such what", Beach.BAD, x.drawn(0, 7, 101, 2));
        Check.due("no such what", Beach.BAD, x.drawn(0, 7, 101, -1));
        // One chair, one MOVE: z of SEED 0 is 12345, shifted 48; two MOVES that MAY be made.
        OpensLikeThat y = new OpensLikeThat();
        y.move(1, 1);
        y.move(31, 3);
        y.move(1, 3);
        Check.due("48 % 2: the first that MAY", 0, y.drawn(36, 0, 101, 0));
        Check.due("48 % 3: FOLD", 1, y.drawn(18, 0, 101, 0));
        // z of SEED -1 is -1103515245 + 12345, so the shift must be one without a sign.
        int z = -1103515245 + 12345;
        Check.due("below 0", (z >>> 8) % 3 == 1 ? 0 : 1, y.drawn(18, -1, 101, 0));
    }

    /** Found with 60 MOVES: the last counts. */
    private static void foundOfSixty() {
        OpensLikeThat x = Beach.wheels();
        x.move(1, 0);
        x.person(0, 1);
        int[] row = Beach.times(60, 0);
        Beach.bytes(x, 0, row);
        Check.due("60 FOLDS MAY be made", Beach.NOT, x.judge(0, 18));
        Check.due("60 FOLDS end where they began", 18, x.ends(0, 18));
        Check.due("one can", 1, x.who(0, 18));
        Check.due("begun there", 18, x.begun(0, 18, 1));
        x.put(0, 59, 4);
        Check.due("the last MAY be made of FOLD 0", Beach.NOT, x.judge(0, 18));
        Check.due("the last MAY not, of FOLD 1", 59, x.judge(0, 36));
        Check.due("as far as they MAY", 18, x.ends(0, 36));
        Check.due("nobody can", 0, x.who(0, 36));
        Check.due("begun", 18, x.begun(0, 18, 1));
        Check.due("not begun", Beach.NOT, x.begun(0, 36, 1));
        for (int none : new int[] {5, 6, 127, -1, -128}) {
            x.put(0, 59, none);
            Check.due("the last is none: " + none, 59, x.judge(0, 0));
            Check.due("the STATE ahead of it: " + none, 36, x.ends(0, 0));
            Check.due("nobody can: " + none, 0, x.who(0, 0));
            Check.due("not begun: " + none, 0, x.begun(0, 36, 0));
            x.put(0, 0, none);
            Check.due("the first is none: " + none, 0, x.judge(0, 53));
            Check.due("it stays: " + none, 53, x.ends(0, 53));
            x.put(0, 0, 0);
        }
        Beach.bytes(x, 0);
        for (int s : new int[] {0, 53}) {
            Check.due("nothing made: judge", Beach.NOT, x.judge(0, s));
            Check.due("nothing made: ends", s, x.ends(0, s));
            Check.due("nothing made: who", 1, x.who(0, s));
            Check.due("nothing made: begun", 1, x.begun(0, s, 0));
            Check.due("nothing made: begun at", s, x.begun(0, s, 1));
        }
    }

    /** "which PEOPLE (bits) can make them all". */
    private static void whoOfSix() {
        OpensLikeThat x = Beach.full();
        Beach.bytes(x, 0, 0, 11, 1);
        Check.due("all six", 63, x.who(0, 0));
        Beach.law(x, "d");
        Check.due("none by DEFT 0", 0, x.who(0, 0));
        x.mend(5, 3, 1);
        Check.due("the last", 32, x.who(0, 0));
        x.mend(0, 3, 9);
        Check.due("the first and the last", 33, x.who(0, 0));
        Beach.law(x, "k");
        x.mend(2, 4, 2051);
        x.mend(3, 4, 2049);
        x.mend(4, 4, 4095);
        Check.due("who KNOWS all three", 20, x.who(0, 0));
        x.mend(11, 0, 1);
        Check.due("one MAY not be made", 0, x.who(0, 0));
        Check.due("it MAY, from SIDE 1", 20, x.who(0, 1));
    }

    /** "from how many STATES all of them MAY be made and end in a told one; the least". */
    private static void begunFromOne() {
        OpensLikeThat x = Beach.wheels();
        Beach.bytes(x, 0, 0, 1, 2, 3);
        for (int end = 0; end < 54; end++) {
            int begun = (end / 18 + 2) % 3 * 18 + (end / 6 + 2) % 3 * 6 + (end / 2 + 2) % 3 * 2 + (end + 1) % 2;
            Check.due("how many come to " + end, 1, x.begun(0, end, 0));
            Check.due("which comes to " + end, begun, x.begun(0, end, 1));
        }
        x.mend(0, 0, 2);
        Check.due("from FOLD 2 to 0", 1, x.begun(0, 9, 0));
        Check.due("from FOLD 0 it MAY not", 0, x.begun(0, 27, 0));
        Check.due("from FOLD 0 it MAY not", Beach.NOT, x.begun(0, 27, 1));
    }

    /** "z = z * 1103515245 + 12345 (an int; SEED at first) ahead of each MOVE", also of a chair that stays. */
    private static void drawnAsTold() {
        int[][] wheels = {{0, 1, 0, 3, 1}, {1, 1, 3, 3, 1}, {2, 1, 3, 2, 1}, {3, 1, 3, 3, 1}, {0, 2, 2, 3, 1}};
        // FOLD from 0 and from 1 alone: whoever comes to FOLD 2 stays there, while z goes on.
        int[][] stays = {{0, 1, 0, 3, 1}, {0, 1, 1, 3, 1}, {3, 1, 0, 3, 1}};
        int[][] twelve = {{0, 1, 3, 3, 1}, {1, 1, 3, 3, 1}, {2, 1, 3, 3, 1}, {3, 1, 0, 3, 1}, {0, 2, 3, 3, 1}, {1, 2, 3, 3, 1},
            {2, 2, 3, 3, 1}, {3, 2, 3, 1, 1}, {0, 1, 3, 3, 1}, {1, 1, 2, 2, 1}, {2, 1, 3, 3, 1}, {3, 1, 1, 0, 1}};
        for (int seed : new int[] {0, 1, -1, 12345, Beach.MOST, Beach.LEAST, -987654321}) {
            for (int nm : new int[] {101, 160, 207, 1013, 5001, 5060}) {
                drawnOf(wheels, 0, seed, nm);
                drawnOf(wheels, 36, seed, nm);
                drawnOf(wheels, 53, seed, nm);
                drawnOf(stays, 0, seed, nm);
                drawnOf(stays, 18, seed, nm);
                drawnOf(twelve, 36, seed, nm);
            }
        }
    }

    private static void drawnOf(int[][] fives, int state, int seed, int nm) {
        int z = seed;
        int[] due = {0, 0};
        for (int n = 0; n < nm / 100; n++) {
            int at = state;
            boolean was = isChair(at);
            for (int m = 0; m < nm % 100; m++) {
                z = z * 1103515245 + 12345;
                int[] can = canLead(fives, at);
                at = can.length == 0 ? at : can[(z >>> 8) % can.length];
                was |= isChair(at);
            }
            due[0] += isChair(at) ? 1 : 0;
            due[1] += was ? 1 : 0;
        }
        OpensLikeThat x = new OpensLikeThat();
        for (int[] five : fives) {
            Beach.bytes(x, 0, five);
            x.moves(0, 0, 1);
        }
        Check.due("CHAIRS at the ends of " + nm + " by " + seed, due[0], x.drawn(state, seed, nm, 0));
        Check.due("CHAIRS on the way of " + nm + " by " + seed, due[1], x.drawn(state, seed, nm, 1));
    }

    /** Where all that MAY be made lead, by numbers. */
    private static int[] canLead(int[][] fives, int s) {
        int[] parts = {s / 18, s / 6 % 3, s / 2 % 3, s % 2};
        int[] weight = {18, 6, 2, 1};
        int[] can = new int[12];
        int how = 0;
        for (int[] f : fives) {
            int part = parts[f[0]];
            if ((f[2] == 3 || f[2] == part) && (f[3] == 3 || f[3] == parts[0])) {
                can[how++] = s + weight[f[0]] * ((part + f[1]) % (f[0] == 3 ? 2 : 3) - part);
            }
        }
        return java.util.Arrays.copyOf(can, how);
    }

    private static boolean isChair(int s) {
        return s == 36 || s == 38 || s == 40;
    }
}
