/** Promises 19 to 24: learners, attendants. */
public final class LearnersTest {
    public static void main(String[] args) {
        learn();
        show();
        opens();
        bestFirst();
        tide();
        two();
        chairsEnd();
        learnOfSixty();
        learnAsOftenAsItLearns();
        showTheTwelfth();
        showUpToThree();
        secondsAreMet();
        opensByTheLastSecond();
        leftAreNotOpen();
        bestFirstOfSixty();
        tideToTheSecond();
        twoShare();
        twoLeave();
        Check.end();
    }

    private static void learn() {
        OpensLikeThat x = Beach.wheels();
        x.person(0, 2);
        x.mend(0, 4, 2048);
        Beach.bytes(x, 0, 0, 1, 0, 3, 3, 3);
        Check.due("seen LEARNS times or more, and KNOWN", 2048 + 8 + 1, x.learn(0, 0));
        x.mend(0, 5, 3);
        Check.due("LEARNS 3", 2048 + 8, x.learn(0, 0));
        x.mend(0, 5, 4);
        Check.due("LEARNS 4", 2048, x.learn(0, 0));
        Check.due("it is a question only", 2048, x.of(0, 4));
        x.mend(0, 5, 1);
        Beach.bytes(x, 0, 2, 4, 1);
        Check.due("as far as such there are", 2048 + 4, x.learn(0, 0));
        Beach.bytes(x, 0, -1, 1);
        Check.due("as far as such there are", 2048, x.learn(0, 0));
        Beach.bytes(x, 0);
        Check.due("none", 2048, x.learn(0, 0));
    }

    private static void show() {
        OpensLikeThat x = Beach.wheels();
        x.person(0, 3);
        // Each MOVE takes 4, or 2 if it is KNOWN: from 0 two FOLDS, from 7 CLOTH twice and SIDE, too.
        Check.due("none needed", 0, x.show(100, 8, 0));
        Check.due("none needed", 0, x.show(100, 8, 1));
        Check.due("one", 1, x.show(100, 7, 0));
        Check.due("the FOLD", 1, x.show(100, 4, 1));
        Check.due("never sooner", Beach.NOT, x.show(100, 3, 0));
        Check.due("never sooner", Beach.NOT, x.show(100, 3, 1));
        Check.due("of like ones the least", 1, x.show(107, 16, 1));
        Check.due("two", 2, x.show(107, 15, 0));
        Check.due("FOLD and CLOTH", 3, x.show(107, 12, 1));
        Check.due("three", 3, x.show(107, 10, 0));
        Check.due("three", 11, x.show(107, 10, 1));
        Check.due("it is a CHAIR", 0, x.show(136, 0, 0));
        x.mend(0, 4, 1);
        Check.due("it KNOWS the FOLD", 1, x.show(107, 12, 0));
        Check.due("it KNOWS the FOLD", 2, x.show(107, 12, 1));
        Check.due("nobody", Beach.BAD, x.show(0, 8, 0));
        Check.due("no seconds", Beach.BAD, x.show(100, -1, 0));
        Check.due("too many seconds", Beach.BAD, x.show(100, 1000, 0));
        Check.due("999 seconds", 0, x.show(100, 999, 0));
        Check.due("no such what", Beach.BAD, x.show(100, 8, 2));
        Check.due("no such what", Beach.BAD, x.show(100, 8, -1));
        // Four are too many: each part takes 0 until it is KNOWN.
        Beach.law(x, "k");
        x.mend(0, 4, 0);
        Check.due("FOLD, CLOTH and SIDE", 11, x.show(107, 9, 1));
        x.mend(3, 1, 2);
        x.mend(0, 0, 0);
        x.move(1, 1);
        Check.due("four would be needed", Beach.NOT, x.show(107, 9, 0));
        Check.due("three", 19, x.show(106, 9, 1));
        // A law may make it worse to KNOW: then the ways change, too.
        Beach.law(x, "m<4?1+k*50;1");
        Check.due("none", 0, x.show(107, 5, 0));
        x.mend(0, 4, 1);
        Check.due("it cannot forget", Beach.NOT, x.show(107, 5, 0));
    }

    /** Seconds of chairs in STATES 0, 36, 18, 7: 8, 0, 4, 20. */
    private static OpensLikeThat beach() {
        OpensLikeThat x = Beach.wheels();
        x.person(0, 1);
        x.person(9, 1);
        return x;
    }

    private static void opens() {
        OpensLikeThat x = beach();
        Beach.bytes(x, 0, 0, 36, 18, 7);
        int[] by = {0, 7, 8, 11, 12, 31, 32, 9999};
        int[] due = {0, 0, 2, 2, 3, 3, 4, 4};
        for (int i = 0; i < by.length; i++) {
            Check.due("open by " + by[i], due[i], x.opens(0, 0, by[i]));
        }
        Check.due("all takes", 32, x.opens(0, 0, -1));
        Check.due("none left", 0, x.opens(0, 0, -2));
        Check.due("too late", Beach.BAD, x.opens(0, 0, 10000));
        Check.due("no such", Beach.BAD, x.opens(0, 0, -3));
        Check.due("the other, DEFT 9: 1 each", 8, x.opens(0, 1, -1));
        x.mend(1, 0, 0);
        Beach.bytes(x, 0, 12, 0, 53, 18);
        Check.due("left: no way", 2, x.opens(0, 0, -2));
        Check.due("left take none", 12, x.opens(0, 0, -1));
        Check.due("left are not open", 2, x.opens(0, 0, 9999));
        Check.due("the first", 1, x.opens(0, 0, 8));
        Beach.bytes(x, 0);
        Check.due("no chairs", 0, x.opens(0, 0, 9));
        Check.due("no chairs", 0, x.opens(0, 0, -1));
        Check.due("no chairs", 0, x.opens(0, 0, -2));
        int[] sixty = new int[60];
        for (int i = 0; i < 60; i++) {
            sixty[i] = 18;
        }
        Beach.bytes(x, 0, sixty);
        Check.due("sixty", 240, x.opens(0, 0, -1));
        Check.due("thirty of sixty", 30, x.opens(0, 0, 120));
    }

    private static void bestFirst() {
        OpensLikeThat x = beach();
        Beach.bytes(x, 0, 7, 0, 36, 18);
        int[] by = {0, 3, 4, 11, 12, 31, 32, 9999};
        int[] due = {1, 1, 2, 2, 3, 3, 4, 4};
        for (int i = 0; i < by.length; i++) {
            Check.due("open by " + by[i], due[i], x.bestFirst(0, 0, by[i]));
        }
        Check.due("in order it is not so", 0, x.opens(0, 0, 12));
        x.mend(1, 0, 0);
        Beach.bytes(x, 0, 53, 0, 12, 36, 18);
        Check.due("two left are not open", 3, x.bestFirst(0, 0, 12));
        Check.due("no such", Beach.BAD, x.bestFirst(0, 0, -1));
        Check.due("too late", Beach.BAD, x.bestFirst(0, 0, 10000));
        Beach.bytes(x, 0);
        Check.due("no chairs", 0, x.bestFirst(0, 0, 9));
    }

    private static void tide() {
        OpensLikeThat x = beach();
        Beach.bytes(x, 0, 0, 36, 18, 7);
        Check.due("in time", Beach.NOT, x.tide(0, 0, 8));
        Check.due("the first is late", 0, x.tide(0, 0, 7));
        Beach.bytes(x, 0, 18, 18, 0, 36);
        Check.due("in time to the second", Beach.NOT, x.tide(0, 0, 6));
        Check.due("the third is late", 2, x.tide(0, 0, 5));
        x.mend(1, 0, 0);
        Beach.bytes(x, 0, 36, 53, 36);
        Check.due("one left is late", 1, x.tide(0, 0, 999));
        Beach.bytes(x, 0);
        Check.due("no chairs", Beach.NOT, x.tide(0, 0, 1));
        Check.due("no such", Beach.BAD, x.tide(0, 0, 0));
        Check.due("no such", Beach.BAD, x.tide(0, 0, 1000));
    }

    private static void two() {
        OpensLikeThat x = beach();
        // The first: 8, 4, 20, 8; the other: 2, 1, 5, 2.
        Beach.bytes(x, 0, 0, 18, 7, 0);
        Check.due("first 0 to 8, other 0 to 1 to 6 to 8", 40 - 8, x.two(0, 1));
        Check.due("the other ends at 12", 0, x.two(0, 10));
        Beach.bytes(x, 0, 0, 18, 7);
        Check.due("first 0 to 2 to 7, other 0 to 4", 8 - 7, x.two(0, 10));
        Beach.bytes(x, 0, 18, 7);
        Check.due("the other is slower than all", 0, x.two(0, 10));
        Beach.bytes(x, 0, 36, 18);
        Check.due("of like ones the first", 0, x.two(0, 1));
        Beach.bytes(x, 0);
        Check.due("no chairs", 0, x.two(0, 1));
        Check.due("one twice", Beach.BAD, x.two(0, 11));
        Check.due("no one", Beach.BAD, x.two(0, 2));
        Check.due("no one", Beach.BAD, x.two(0, 20));
        Check.due("below 0", Beach.BAD, x.two(0, -1));
        Check.due("below 0", Beach.BAD, x.two(0, -10));
        Check.due("far off", Beach.BAD, x.two(0, Integer.MIN_VALUE));
        // The other cannot fold: what it takes is left, in 0 seconds, and it takes the next.
        Beach.bytes(x, 0, 18, 0, 0, 18);
        Beach.law(x, "d=9?m;4");
        Check.due("the other leaves all behind the first", 24 - 4, x.two(0, 1));
    }

    /** The first byte that is no STATE ends the chairs: those behind it are none, too. */
    private static void chairsEnd() {
        OpensLikeThat x = beach();
        for (int none : new int[] {-128, -1, 54, 55, 56, 100, 127}) {
            String told = " behind " + none;
            Beach.bytes(x, 0, 0, 18, none, 36, 18);
            Check.due("opens" + told, 2, x.opens(0, 0, 9999));
            Check.due("opens -1" + told, 12, x.opens(0, 0, -1));
            Check.due("opens -2" + told, 0, x.opens(0, 0, -2));
            Check.due("bestFirst" + told, 2, x.bestFirst(0, 0, 9999));
            Check.due("bestFirst by 4" + told, 1, x.bestFirst(0, 0, 4));
            Check.due("tide" + told, Beach.NOT, x.tide(0, 0, 8));
            Check.due("two" + told, 12 - 8, x.two(0, 1));
            Beach.bytes(x, 0, none, 36);
            Check.due("opens at once" + told, 0, x.opens(0, 0, 0));
            Check.due("opens -1 at once" + told, 0, x.opens(0, 0, -1));
            Check.due("opens -2 at once" + told, 0, x.opens(0, 0, -2));
            Check.due("bestFirst at once" + told, 0, x.bestFirst(0, 0, 0));
            Check.due("tide at once" + told, Beach.NOT, x.tide(0, 0, 1));
            Check.due("two at once" + told, 0, x.two(0, 1));
        }
        Beach.bytes(x, 0, 53, 0, 53);
        Check.due("53 and 0 are STATES", 3, x.opens(0, 0, 9999));
        // What a longer ROW had behind its end is not there any more.
        Beach.bytes(x, 0, 36, 54, 36);
        Beach.bytes(x, 0, 36, 36, 36);
        Check.due("all three", 3, x.opens(0, 0, 0));
        Check.due("that one not put is STATE 0", 8, restOfRow(x));
    }

    private static int restOfRow(OpensLikeThat x) {
        x.row(0, 0, 2);
        x.put(0, 0, 36);
        return x.opens(0, 0, -1);
    }

    /** A ROW of 0 and of 60 elements: the last counts; the first that is no MOVE ends it. */
    private static void learnOfSixty() {
        OpensLikeThat x = Beach.full();
        x.mend(5, 5, 2);
        int[] row = Beach.times(60, 0);
        row[0] = 11;
        row[59] = 11;
        Beach.bytes(x, 5, row);
        Check.due("the 60th is the second 11", 2049, x.learn(5, 5));
        Check.due("the shelf beside it is of 0", 1, x.learn(4, 5));
        x.put(5, 58, 12);
        Check.due("no MOVE 12: what is behind is not seen", 1, x.learn(5, 5));
        Beach.bytes(x, 5);
        Check.due("nothing seen", 0, x.learn(5, 5));
        x.mend(5, 4, 4095);
        Check.due("it KNOWS all", 4095, x.learn(5, 5));
        for (int none : new int[] {12, 13, 127, -1, -128}) {
            Beach.bytes(x, 3, 0, 0, none, 1, 1);
            x.mend(5, 4, 4);
            Check.due("as far as such there are: " + none, 5, x.learn(3, 5));
        }
        Beach.bytes(x, 3, 0, 11, 1, 0, 11, 0);
        Check.due("0 and 11, each twice, and 2", 2053, x.learn(3, 5));
        x.mend(5, 4, 2049);
        Check.due("what it KNOWS it does not lose by seeing it", 2049, x.learn(3, 5));
        OpensLikeThat y = new OpensLikeThat();
        y.person(0, 1);
        y.mend(0, 4, 4095);
        y.row(0, 0, 60);
        Check.due("no MOVES, but it KNOWS them", 4095, y.learn(0, 0));
        y.mend(0, 4, 0);
        Check.due("no MOVES to see", 0, y.learn(0, 0));
    }

    /** "each seen LEARNS times or more", 1 .. 9. */
    private static void learnAsOftenAsItLearns() {
        OpensLikeThat x = Beach.wheels();
        x.person(0, 1);
        for (int learns = 1; learns <= 9; learns++) {
            x.mend(0, 5, learns);
            Beach.bytes(x, 0, Beach.times(learns - 1, 3));
            Check.due("seen once less than " + learns, 0, x.learn(0, 0));
            Beach.bytes(x, 0, Beach.times(learns, 3));
            Check.due("seen " + learns + " times", 8, x.learn(0, 0));
            Beach.bytes(x, 0, Beach.times(learns + 1, 3));
            Check.due("seen once more than " + learns, 8, x.learn(0, 0));
        }
    }

    /** 12 MOVES, of which the last alone leads: it is the one to be shown, however often one must see it. */
    private static void showTheTwelfth() {
        OpensLikeThat x = new OpensLikeThat();
        for (int i = 0; i < 11; i++) {
            x.move(32, 3);
        }
        x.move(2, 3);
        for (int i = 0; i < 6; i++) {
            x.person(0, 9);
        }
        Check.due("4 seconds without", 0, x.show(600, 4, 0));
        Check.due("2 if it KNOWS it", 1, x.show(600, 2, 0));
        Check.due("which", 2048, x.show(600, 2, 1));
        Check.due("1 is too few", Beach.NOT, x.show(600, 1, 0));
        x.mend(5, 4, 2048);
        Check.due("it KNOWS it: none", 0, x.show(600, 2, 1));
        Check.due("another does not", 2048, x.show(500, 2, 1));
        x.mend(5, 4, 2047);
        Check.due("it KNOWS all others", 2048, x.show(600, 3, 1));
        Check.due("a CHAIR, no seconds", 0, x.show(640, 0, 0));
        Check.due("no CHAIR, no seconds", Beach.NOT, x.show(600, 0, 1));
        Check.due("none ever, 999 seconds", Beach.NOT, x.show(601, 999, 0));
        Check.due("none ever, 999 seconds", Beach.NOT, x.show(601, 999, 1));
    }

    /** "how many unlike ones (0 .. 3)": five MOVES that one cannot make till it KNOWS them. */
    private static void showUpToThree() {
        OpensLikeThat x = new OpensLikeThat();
        int[] wb = {1, 1, 11, 11, 31};
        int[] from = {0, 1, 1, 2, 1};
        for (int i = 0; i < wb.length; i++) {
            x.move(wb[i], from[i]);
        }
        x.person(0, 5);
        Beach.law(x, "k");
        int[] ps = {136, 137, 119, 101, 131, 107};
        int[] many = {0, 1, 2, 3, 3, Beach.NOT};
        int[] which = {0, 16, 18, 19, 26, Beach.NOT};
        for (int i = 0; i < ps.length; i++) {
            Check.due("how many from " + ps[i], many[i], x.show(ps[i], 999, 0));
            Check.due("which from " + ps[i], which[i], x.show(ps[i], 999, 1));
            if (many[i] > 0) {
                Check.due("to the second from " + ps[i], many[i], x.show(ps[i], many[i], 0));
                Check.due("a second less from " + ps[i], Beach.NOT, x.show(ps[i], many[i] - 1, 0));
            }
        }
        Check.due("CLOTH 1, SIDE 0: four are too many", Beach.NOT, x.show(106, 999, 1));
        x.mend(0, 4, 1);
        Check.due("it KNOWS one of the four", 3, x.show(106, 999, 0));
        Check.due("the other three", 14, x.show(106, 999, 1));
        Check.due("still four", Beach.NOT, x.show(107, 999, 1));
        // FOLD by 2 at once, too.
        x.mend(0, 4, 0);
        x.move(2, 0);
        Check.due("one is fewer than two", 32, x.show(100, 999, 1));
        x.move(2, 0);
        Check.due("of like ones the least", 32, x.show(100, 999, 1));
        x.mend(5, 1, 2);
        Check.due("but that one MAY be made", 64, x.show(100, 999, 1));
    }

    /** Ways of 99 seconds a MOVE: the most that a chair takes. */
    private static OpensLikeThat slow() {
        OpensLikeThat x = Beach.wheels();
        x.person(0, 1);
        x.person(0, 1);
        Beach.law(x, "99");
        return x;
    }

    private static void secondsAreMet() {
        OpensLikeThat x = slow();
        Check.due("five MOVES", 495, x.way(107, 54, 1));
        Check.due("by 495", 0, x.show(107, 495, 0));
        Check.due("by 494", Beach.NOT, x.show(107, 494, 0));
        Beach.bytes(x, 0, 7);
        Check.due("open by 495", 1, x.opens(0, 0, 495));
        Check.due("open by 494", 0, x.opens(0, 0, 494));
        Check.due("best by 495", 1, x.bestFirst(0, 0, 495));
        Check.due("best by 494", 0, x.bestFirst(0, 0, 494));
        Check.due("in time by 495", Beach.NOT, x.tide(0, 0, 495));
        Check.due("late by 494", 0, x.tide(0, 0, 494));
        Check.due("all takes", 495, x.opens(0, 0, -1));
    }

    /** "by second s (0 .. 9999)": 20 chairs of 495 seconds and one of 99 are 9999. */
    private static void opensByTheLastSecond() {
        OpensLikeThat x = slow();
        int[] row = Beach.times(22, 7);
        row[20] = 18;
        row[21] = 18;
        Beach.bytes(x, 0, row);
        Check.due("21 by 9999", 21, x.opens(0, 0, 9999));
        Check.due("20 by 9998", 20, x.opens(0, 0, 9998));
        Check.due("none by 0", 0, x.opens(0, 0, 0));
        Check.due("all takes more", 10098, x.opens(0, 0, -1));
        Check.due("none left", 0, x.opens(0, 0, -2));
        Check.due("best by 9999: the short ones first", 21, x.bestFirst(0, 0, 9999));
        Beach.bytes(x, 0, Beach.times(60, 7));
        Check.due("60 by 9999", 20, x.opens(0, 0, 9999));
        Check.due("60 by 9900", 20, x.opens(0, 0, 9900));
        Check.due("60 by 9899", 19, x.opens(0, 0, 9899));
        Check.due("60 take", 29700, x.opens(0, 0, -1));
        Beach.law(x, "1");
        Check.due("60 by 300", 60, x.opens(0, 0, 300));
        Check.due("60 by 299", 59, x.opens(0, 0, 299));
        Beach.bytes(x, 0, Beach.times(60, 36));
        Check.due("60 CHAIRS by 0", 60, x.opens(0, 0, 0));
        Check.due("60 CHAIRS take", 0, x.opens(0, 0, -1));
        Beach.bytes(x, 0, 36, 18, 36);
        Check.due("in order: the last one waits", 1, x.opens(0, 0, 0));
        Check.due("in order: the last one is next", 3, x.opens(0, 0, 1));
    }

    /** "one that cannot be is left, 0 seconds". */
    private static void leftAreNotOpen() {
        OpensLikeThat x = slow();
        x.mend(0, 0, 0);
        // FOLD from 0 alone: 0 comes to FOLD 1 and no further; 36 and 41 are or come to be CHAIRS.
        Beach.bytes(x, 0, 0, 41, 18, 36, 53);
        Check.due("left", 2, x.opens(0, 0, -2));
        Check.due("left take none", 99 + 99 * 2, x.opens(0, 0, -1));
        Check.due("open by 0", 0, x.opens(0, 0, 0));
        Check.due("open by 99", 2, x.opens(0, 0, 99));
        Check.due("open by 297", 3, x.opens(0, 0, 297));
        Check.due("best by 0", 1, x.bestFirst(0, 0, 0));
        Check.due("best by 98", 1, x.bestFirst(0, 0, 98));
        Check.due("best by 99", 2, x.bestFirst(0, 0, 99));
        Check.due("best by 9999", 3, x.bestFirst(0, 0, 9999));
        Check.due("one that is left is late", 0, x.tide(0, 0, 999));
        Beach.bytes(x, 0, 41, 36, 0);
        Check.due("one that is left is late, though it takes none", 2, x.tide(0, 0, 999));
        Beach.bytes(x, 0, Beach.times(60, 0));
        Check.due("60 left", 60, x.opens(0, 0, -2));
        Check.due("60 left: open", 0, x.opens(0, 0, 9999));
        Check.due("60 left: best", 0, x.bestFirst(0, 0, 9999));
        Check.due("60 left: seconds", 0, x.opens(0, 0, -1));
        Check.due("60 left: two", 0, x.two(0, 1));
        Beach.law(x, "0");
        Beach.bytes(x, 0, 18, 36);
        Check.due("one that can nothing leaves all but CHAIRS", 1, x.opens(0, 0, -2));
        Check.due("a CHAIR is open", 1, x.opens(0, 0, 0));
    }

    /** "as many by second s as may be, in any order". */
    private static void bestFirstOfSixty() {
        OpensLikeThat x = slow();
        Beach.law(x, "1");
        int[] row = new int[60];
        for (int i = 0; i < 60; i++) {
            row[i] = new int[] {7, 36, 18, 0}[i % 4];
        }
        Beach.bytes(x, 0, row);
        // 15 each of 0, 1, 2 and 5 seconds.
        int[] by = {0, 1, 14, 15, 16, 17, 44, 45, 49, 50, 119, 120};
        int[] due = {15, 16, 29, 30, 30, 31, 44, 45, 45, 46, 59, 60};
        for (int i = 0; i < by.length; i++) {
            Check.due("best by " + by[i], due[i], x.bestFirst(0, 0, by[i]));
        }
        Check.due("the ROW itself stays", 7, (int) x.element(0, 0));
        Check.due("in order", 0, x.opens(0, 0, 4));
        Beach.bytes(x, 0, 0, 18, 18, 18);
        Check.due("three of 1 rather than one of 2", 3, x.bestFirst(0, 0, 3));
        Check.due("two of them by 2", 2, x.bestFirst(0, 0, 2));
    }

    /** "each k of the ROW must be open by second (k and 1) times t (1 .. 999)". */
    private static void tideToTheSecond() {
        OpensLikeThat x = slow();
        int[] row = Beach.times(60, 36);
        row[59] = 7;
        Beach.bytes(x, 0, row);
        Check.due("495 by 60 times 9", Beach.NOT, x.tide(0, 0, 9));
        Check.due("495 by 60 times 8", 59, x.tide(0, 0, 8));
        Beach.bytes(x, 0, Beach.times(60, 18));
        Check.due("99 each by 99", Beach.NOT, x.tide(0, 0, 99));
        Check.due("99 each by 98", 0, x.tide(0, 0, 98));
        row[59] = 53;
        row[58] = 18;
        Beach.bytes(x, 0, row);
        Check.due("99 by 59 times 2", 59, x.tide(0, 0, 2));
        Check.due("99 by 59 times 1", 58, x.tide(0, 0, 1));
        Check.due("999", Beach.NOT, x.tide(0, 0, 999));
        Beach.law(x, "1");
        Beach.bytes(x, 0, 18, 18, 0, 18);
        Check.due("1 by 1, 2 by 2, 4 by 3", 2, x.tide(0, 0, 1));
        Beach.bytes(x, 0, 36, 0, 18, 18);
        Check.due("0 by 1, 2 by 2, 3 by 3, 4 by 4", Beach.NOT, x.tide(0, 0, 1));
        x.mend(1, 0, 1);
        Beach.bytes(x, 0, 18, 0, 18, 48, 36);
        Check.due("one is late ahead of one that is left", 1, x.tide(0, 0, 1));
        Check.due("the first that is late is the one left", 3, x.tide(0, 0, 2));
    }

    /** "if two of the PEOPLE take the next one as they are free (of like ones the first one)". */
    private static void twoShare() {
        OpensLikeThat x = Beach.wheels();
        for (int i = 0; i < 6; i++) {
            x.person(i, 1);
        }
        Beach.law(x, "1");
        for (int n = 0; n <= 60; n++) {
            if (n < 4 || n > 57) {
                Beach.bytes(x, 0, Beach.times(n, 18));
                Check.due("alike, " + n, n - (n + 1) / 2, x.two(0, 45));
                Check.due("alike, " + n, n - (n + 1) / 2, x.two(0, 54));
            }
        }
        // One of DEFT d takes d for a MOVE.
        Beach.law(x, "d");
        Beach.bytes(x, 0, 18, 18, 18);
        Check.due("1 alone: 3; with 2: 1, then 2 and 2", 3 - 2, x.two(0, 12));
        Check.due("2 alone: 6; with 1: 2, then 1 and 2", 6 - 2, x.two(0, 21));
        Check.due("5 alone: 15; with 1: 5, then 1 and 2", 15 - 5, x.two(0, 51));
        Check.due("1 alone: 3; with 5: 1 and 2, but 5", 0, x.two(0, 15));
        Beach.bytes(x, 0, 18, 18, 18, 18);
        Check.due("1 alone: 4; with 3: both are free at 3, the first takes it", 4 - 3, x.two(0, 13));
        // One of DEFT 0 can nothing: what it takes is left.
        Check.due("0 takes all: none is opened", 0, x.two(0, 1));
        Check.due("1 alone: 4; with 0: the first one takes 1, the others are left", 4 - 1, x.two(0, 10));
    }

    /** In TWO, too, one that is left takes no seconds, and not less. */
    private static void twoLeave() {
        OpensLikeThat x = Beach.wheels();
        Beach.people(x, 2);
        Beach.law(x, "1");
        x.mend(0, 0, 1);
        Beach.bytes(x, 0, 0, 18, 18, 18);
        Check.due("the first leaves one, then 1, 1 and 2", 3 - 2, x.two(0, 1));
        Beach.bytes(x, 0, 18, 0, 18, 18);
        Check.due("the other leaves one, then 1 and 2", 3 - 2, x.two(0, 1));
        Beach.bytes(x, 0, 0, 0, 0);
        Check.due("all are left", 0, x.two(0, 1));
        Beach.bytes(x, 0, 18, 0);
        Check.due("one is opened, one left", 0, x.two(0, 1));
        // The first cannot open a SHUT one; the other can, but it is the first one's turn.
        x.mend(0, 0, 3);
        x.mend(0, 3, 1);
        x.mend(1, 3, 2);
        Beach.law(x, "d=1&f=0?0;d");
        Beach.bytes(x, 0, 0, 18, 18, 18);
        Check.due("1 leaves one, then 1 and 1; 2 takes 2", 3 - 2, x.two(0, 1));
        Check.due("2 takes 4; 1 takes 1, 2 and 3", 10 - 4, x.two(0, 10));
    }
}
